section RowsOK
theorem zr_14_71 : zOK zPre 14 71 (s_call (nat_lit 99) (nat_lit 20) (nat_lit 6) (nat_lit 1) (nat_lit 1) [] (nat_lit 74)) := ok_call (md := zmd_14) zh_14 zh_20 rfl (by decide) (by decide) (Or.inl rfl) zp_20 (zrow_callS (mdc := zmd_20) (index := 68) (md := zmd_14) zh_14 (by decide +kernel) rfl rfl zc_20 zw_7_22 zw_7_23 zw_1_10 zd_20) trivial
theorem zr_14_74 : zOK zPre 14 74 (s_aas (nat_lit 28) (nat_lit 9) (nat_lit 75)) := ok_aas0 (by decide) (Or.inl (by decide)) (zrow_aa1 (by decide) (by decide) (md := zmd_14) zh_14 (by decide +kernel) rfl rfl rfl)
theorem zr_14_75 : zOK zPre 14 75 (s_inc (nat_lit 1) (nat_lit 16) (nat_lit 78)) := ok_inc (n := 1) (md := zmd_14) zh_14 (by decide +kernel) rfl (by decide +kernel)
theorem zr_14_78 : zOK zPre 14 78 (s_go (nat_lit 59)) := ok_go (off := -19) (md := zmd_14) zh_14 (by decide +kernel) (by decide +kernel)
theorem zr_14_81 : zOK zPre 14 81 (s_rv) := ok_rv (md := zmd_14) zh_14 rfl (by decide +kernel)
theorem zr_15_0 : zOK zPre 15 0 (s_ld_0 (nat_lit 1136) (nat_lit 1)) := zokE (zld_0 _ _) (ok_ld0 (t := 4) (i := 0) (zrow_aload_n (k := 0) (md := zmd_15) zh_15 (by decide +kernel) rfl rfl))
theorem zr_15_1 : zOK zPre 15 1 (s_k (nat_lit 256) (nat_lit 3)) := ok_bipush (n := 16) (md := zmd_15) zh_15 (by decide +kernel) rfl (by decide +kernel)
theorem zr_15_3 : zOK zPre 15 3 (s_call (nat_lit 11) (nat_lit 16) (nat_lit 2) (nat_lit 2) (nat_lit 0) [] (nat_lit 6)) := ok_call (md := zmd_15) zh_15 zh_16 rfl (by decide) (by decide) (Or.inr (by decide)) zp_16 (zrow_callI (mdc := zmd_16) (index := 1) (md := zmd_15) zh_15 (by decide +kernel) rfl rfl rfl rfl zc_16 (by decide) zw_6_206 zw_6_207 zw_1_11 zd_16) trivial
theorem zr_15_6 : zOK zPre 15 6 (s_rv) := ok_rv (md := zmd_15) zh_15 rfl (by decide +kernel)
theorem zr_16_0 : zOK zPre 16 0 (s_ld_0 (nat_lit 1136) (nat_lit 1)) := zokE (zld_0 _ _) (ok_ld0 (t := 4) (i := 0) (zrow_aload_n (k := 0) (md := zmd_16) zh_16 (by decide +kernel) rfl rfl))
theorem zr_16_1 : zOK zPre 16 1 (s_oi (nat_lit 4)) := ok_oi (index := 3) (md := zmd_16) zh_16 (by decide +kernel) rfl zw_6_209 zw_1_48 zw_oi
theorem zr_16_4 : zOK zPre 16 4 (s_k (nat_lit 16) (nat_lit 7)) := ok_gets (index := 18) (C := "java/lang/String") (n := "COMPACT_STRINGS") (d := "Z") (md := zmd_16) zh_16 (by decide +kernel) rfl (List.mem_of_getElem? (i := 3) rfl) zw_6_210
theorem zr_16_7 : zOK zPre 16 7 (s_if (nat_lit 0) zi_eq (nat_lit 25) (nat_lit 10)) := ok_if_eq (off := 18) (md := zmd_16) zh_16 (by decide +kernel) (by decide +kernel) rfl
theorem zr_16_10 : zOK zPre 16 10 (s_ld_0 (nat_lit 1136) (nat_lit 11)) := zokE (zld_0 _ _) (ok_ld0 (t := 4) (i := 0) (zrow_aload_n (k := 0) (md := zmd_16) zh_16 (by decide +kernel) rfl rfl))
theorem zr_16_11 : zOK zPre 16 11 (s_ld_1 (nat_lit 45067) (nat_lit 12)) := zokE (zld_1 _ _) (ok_ld0 (t := 0) (i := 1) (zrow_iload_n (k := 1) (md := zmd_16) zh_16 (by decide +kernel) rfl rfl))
theorem zr_16_12 : zOK zPre 16 12 (s_na (nat_lit 22) (nat_lit 0) (nat_lit 14)) := ok_na0 (by decide) rfl (zrow_na22 (md := zmd_16) zh_16 (by decide +kernel) rfl zw_1_114)
theorem zr_16_14 : zOK zPre 16 14 (s_pf (nat_lit 11) (nat_lit 0) (nat_lit 5) (nat_lit 17)) := ok_pf0 (by decide) (zrow_pf (ty := tyJ4 0) (index := 15) (ref := "java/lang/AbstractStringBuilder") (C := RJ4) (T := TJ4) (N := 4) (ty0 := tyJ4) (md := zmd_16) zh_16 (by decide +kernel) rfl rfl (by decide) zu_J4 tyJ4_ok nmJ4 zw_6_219 rfl rfl (by decide +kernel) zfty5a)
theorem zr_16_17 : zOK zPre 16 17 (s_ld_0 (nat_lit 1136) (nat_lit 18)) := zokE (zld_0 _ _) (ok_ld0 (t := 4) (i := 0) (zrow_aload_n (k := 0) (md := zmd_16) zh_16 (by decide +kernel) rfl rfl))
theorem zr_16_18 : zOK zPre 16 18 (s_k (nat_lit 0) (nat_lit 19)) := ok_iconst (n := 0) (md := zmd_16) zh_16 (by decide +kernel) rfl (by decide +kernel)
theorem zr_16_19 : zOK zPre 16 19 (s_pf (nat_lit 11) (nat_lit 1) (nat_lit 2) (nat_lit 22)) := ok_pf0 (by decide) (zrow_pf (ty := .byte) (index := 22) (ref := "java/lang/AbstractStringBuilder") (C := RJ4) (T := TJ4) (N := 4) (ty0 := tyJ4) (md := zmd_16) zh_16 (by decide +kernel) rfl rfl (by decide) zu_J4 tyJ4_ok nmJ4 zw_6_220 rfl rfl (by decide +kernel) zfty2)
theorem zr_16_22 : zOK zPre 16 22 (s_go (nat_lit 38)) := ok_go (off := 16) (md := zmd_16) zh_16 (by decide +kernel) (by decide +kernel)
theorem zr_16_38 : zOK zPre 16 38 (s_rv) := ok_rv (md := zmd_16) zh_16 rfl (by decide +kernel)
theorem zr_17_0 : zOK zPre 17 0 (s_ld_0 (nat_lit 1136) (nat_lit 1)) := zokE (zld_0 _ _) (ok_ld0 (t := 4) (i := 0) (zrow_aload_n (k := 0) (md := zmd_17) zh_17 (by decide +kernel) rfl rfl))
theorem zr_17_1 : zOK zPre 17 1 (s_call (nat_lit 12) (nat_lit 18) (nat_lit 1) (nat_lit 1) (nat_lit 0) [] (nat_lit 4)) := ok_call (md := zmd_17) zh_17 zh_18 rfl (by decide) (by decide) (Or.inr (by decide)) zp_18 (zrow_callI (mdc := zmd_18) (index := 1) (md := zmd_17) zh_17 (by decide +kernel) rfl rfl rfl rfl zc_18 (by decide) zw_6_238 zw_6_239 zw_1_16 zd_18) trivial
theorem zr_17_4 : zOK zPre 17 4 (s_ld_0 (nat_lit 1136) (nat_lit 5)) := zokE (zld_0 _ _) (ok_ld0 (t := 4) (i := 0) (zrow_aload_n (k := 0) (md := zmd_17) zh_17 (by decide +kernel) rfl rfl))
theorem zr_17_5 : zOK zPre 17 5 (s_k (nat_lit 38) (nat_lit 8)) := ok_gets (index := 39) (C := "java/util/ArrayList") (n := "DEFAULTCAPACITY_EMPTY_ELEMENTDATA") (d := "[Ljava/lang/Object;") (md := zmd_17) zh_17 (by decide +kernel) rfl (List.mem_of_getElem? (i := 1) rfl) zw_7_5
theorem zr_17_8 : zOK zPre 17 8 (s_pf (nat_lit 12) (nat_lit 1) (nat_lit 5) (nat_lit 11)) := ok_pf0 (by decide) (zrow_pf (ty := tyJx4a65c 1) (index := 9) (ref := "java/util/ArrayList") (C := RJx4a65c) (T := TJx4a65c) (N := 3) (ty0 := tyJx4a65c) (md := zmd_17) zh_17 (by decide +kernel) rfl rfl (by decide) zu_Jx4a65c tyJx4a65c_ok nmJx4a65c zw_7_7 rfl rfl (by decide +kernel) zfty5a)
theorem zr_17_11 : zOK zPre 17 11 (s_rv) := ok_rv (md := zmd_17) zh_17 rfl (by decide +kernel)
theorem zr_18_0 : zOK zPre 18 0 (s_ld_0 (nat_lit 1136) (nat_lit 1)) := zokE (zld_0 _ _) (ok_ld0 (t := 4) (i := 0) (zrow_aload_n (k := 0) (md := zmd_18) zh_18 (by decide +kernel) rfl rfl))
theorem zr_18_1 : zOK zPre 18 1 (s_call (nat_lit 12) (nat_lit 19) (nat_lit 1) (nat_lit 1) (nat_lit 0) [] (nat_lit 4)) := ok_call (md := zmd_18) zh_18 zh_19 rfl (by decide) (by decide) (Or.inr (by decide)) zp_19 (zrow_callI (mdc := zmd_19) (index := 1) (md := zmd_18) zh_18 (by decide +kernel) rfl rfl rfl rfl zc_19 (by decide) zw_7_1 zw_7_2 zw_1_15 zd_19) trivial
theorem zr_18_4 : zOK zPre 18 4 (s_ld_0 (nat_lit 1136) (nat_lit 5)) := zokE (zld_0 _ _) (ok_ld0 (t := 4) (i := 0) (zrow_aload_n (k := 0) (md := zmd_18) zh_18 (by decide +kernel) rfl rfl))
theorem zr_18_5 : zOK zPre 18 5 (s_k (nat_lit 0) (nat_lit 6)) := ok_iconst (n := 0) (md := zmd_18) zh_18 (by decide +kernel) rfl (by decide +kernel)
theorem zr_18_6 : zOK zPre 18 6 (s_pf (nat_lit 12) (nat_lit 0) (nat_lit 0) (nat_lit 9)) := ok_pf0 (by decide) (zrow_pf (ty := .int) (index := 7) (ref := "java/util/AbstractList") (C := RJx4a65c) (T := TJx4a65c) (N := 3) (ty0 := tyJx4a65c) (md := zmd_18) zh_18 (by decide +kernel) rfl rfl (by decide) zu_Jx4a65c tyJx4a65c_ok nmJx4a65c zw_7_11 rfl rfl (by decide +kernel) zfty0)
theorem zr_18_9 : zOK zPre 18 9 (s_rv) := ok_rv (md := zmd_18) zh_18 rfl (by decide +kernel)
theorem zr_19_0 : zOK zPre 19 0 (s_ld_0 (nat_lit 1136) (nat_lit 1)) := zokE (zld_0 _ _) (ok_ld0 (t := 4) (i := 0) (zrow_aload_n (k := 0) (md := zmd_19) zh_19 (by decide +kernel) rfl rfl))
theorem zr_19_1 : zOK zPre 19 1 (s_oi (nat_lit 4)) := ok_oi (index := 1) (md := zmd_19) zh_19 (by decide +kernel) rfl zw_7_4 zw_1_48 zw_oi
theorem zr_19_4 : zOK zPre 19 4 (s_rv) := ok_rv (md := zmd_19) zh_19 rfl (by decide +kernel)
theorem zr_20_0 : zOK zPre 20 0 (s_ld_0 (nat_lit 18436) (nat_lit 1)) := zokE (zld_0 _ _) (ok_ld0 (t := 1) (i := 0) (zrow_lload_n (k := 0) (md := zmd_20) zh_20 (by decide +kernel) rfl rfl))
theorem zr_20_1 : zOK zPre 20 1 (s_call (nat_lit 99) (nat_lit 21) (nat_lit 2) (nat_lit 1) (nat_lit 1) [] (nat_lit 4)) := ok_call (md := zmd_20) zh_20 zh_21 rfl (by decide) (by decide) (Or.inl rfl) zp_21 (zrow_callS (mdc := zmd_21) (index := 58) (md := zmd_20) zh_20 (by decide +kernel) rfl rfl zc_21 zw_7_25 zw_7_26 zw_1_18 zd_21) trivial
theorem zr_20_4 : zOK zPre 20 4 (s_s2 (nat_lit 18436) (nat_lit 2) (nat_lit 5)) := ok_s20 (t := 1) (i := 2) (zrow_lstore_n (k := 2) (md := zmd_20) zh_20 (by decide +kernel) rfl rfl)
theorem zr_20_5 : zOK zPre 20 5 (s_k (nat_lit 64) (nat_lit 6)) := ok_iconst (n := 4) (md := zmd_20) zh_20 (by decide +kernel) rfl (by decide +kernel)
theorem zr_20_6 : zOK zPre 20 6 (s_na (nat_lit 20) (nat_lit 0) (nat_lit 8)) := ok_na0 (by decide) rfl (zrow_na20 (md := zmd_20) zh_20 (by decide +kernel) rfl zw_1_83)
theorem zr_20_8 : zOK zPre 20 8 (s_s1_4 (nat_lit 1136) (nat_lit 10)) := zokE (zs1_4 _ _) (ok_s10 (t := 4) (i := 4) (zrow_astore (md := zmd_20) zh_20 (by decide +kernel) rfl))
theorem zr_20_10 : zOK zPre 20 10 (s_k (nat_lit 0) (nat_lit 11)) := ok_iconst (n := 0) (md := zmd_20) zh_20 (by decide +kernel) rfl (by decide +kernel)
theorem zr_20_11 : zOK zPre 20 11 (s_s1_5 (nat_lit 45067) (nat_lit 13)) := zokE (zs1_5 _ _) (ok_s10 (t := 0) (i := 5) (zrow_istore (md := zmd_20) zh_20 (by decide +kernel) rfl))
theorem zr_20_13 : zOK zPre 20 13 (s_ld_5 (nat_lit 45067) (nat_lit 15)) := zokE (zld_5 _ _) (ok_ld0 (t := 0) (i := 5) (zrow_iload (md := zmd_20) zh_20 (by decide +kernel) rfl))
theorem zr_20_15 : zOK zPre 20 15 (s_k (nat_lit 64) (nat_lit 16)) := ok_iconst (n := 4) (md := zmd_20) zh_20 (by decide +kernel) rfl (by decide +kernel)
theorem zr_20_16 : zOK zPre 20 16 (s_ic (nat_lit 3) zu_ge (nat_lit 42) (nat_lit 19)) := ok_ic_ge (off := 26) (md := zmd_20) zh_20 (by decide +kernel) (by decide +kernel) rfl
theorem zr_20_19 : zOK zPre 20 19 (s_ld_4 (nat_lit 1136) (nat_lit 21)) := zokE (zld_4 _ _) (ok_ld0 (t := 4) (i := 4) (zrow_aload (md := zmd_20) zh_20 (by decide +kernel) rfl))
theorem zr_20_21 : zOK zPre 20 21 (s_ld_5 (nat_lit 45067) (nat_lit 23)) := zokE (zld_5 _ _) (ok_ld0 (t := 0) (i := 5) (zrow_iload (md := zmd_20) zh_20 (by decide +kernel) rfl))
theorem zr_20_23 : zOK zPre 20 23 (s_ld_2 (nat_lit 18436) (nat_lit 24)) := zokE (zld_2 _ _) (ok_ld0 (t := 1) (i := 2) (zrow_lload_n (k := 2) (md := zmd_20) zh_20 (by decide +kernel) rfl rfl))
theorem zr_20_24 : zOK zPre 20 24 (s_k (nat_lit 256) (nat_lit 26)) := ok_bipush (n := 16) (md := zmd_20) zh_20 (by decide +kernel) rfl (by decide +kernel)
theorem zr_20_26 : zOK zPre 20 26 (s_ld_5 (nat_lit 45067) (nat_lit 28)) := zokE (zld_5 _ _) (ok_ld0 (t := 0) (i := 5) (zrow_iload (md := zmd_20) zh_20 (by decide +kernel) rfl))
theorem zr_20_28 : zOK zPre 20 28 (s_imul (nat_lit 29)) := ok_imul (md := zmd_20) zh_20 (by decide +kernel) rfl
theorem zr_20_29 : zOK zPre 20 29 (s_lushr (nat_lit 30)) := ok_lushr (md := zmd_20) zh_20 (by decide +kernel) rfl
theorem zr_20_30 : zOK zPre 20 30 (s_k (nat_lit 1048562) (nat_lit 33)) := ok_ldc2 (i := 20) (n := (65535 : Int64)) (md := zmd_20) zh_20 (by decide +kernel) rfl zw_7_28 (by decide +kernel)
theorem zr_20_33 : zOK zPre 20 33 (s_land (nat_lit 34)) := ok_land (md := zmd_20) zh_20 (by decide +kernel) rfl
theorem zr_20_34 : zOK zPre 20 34 (s_l2i (nat_lit 35)) := ok_l2i (md := zmd_20) zh_20 (by decide +kernel) rfl
theorem zr_20_35 : zOK zPre 20 35 (s_ast (nat_lit 20) (nat_lit 0) (nat_lit 36)) := ok_astI (Or.inl rfl) (Or.inl rfl) (zrow_iastore (md := zmd_20) zh_20 (by decide +kernel) rfl)
theorem zr_20_36 : zOK zPre 20 36 (s_inc (nat_lit 5) (nat_lit 16) (nat_lit 39)) := ok_inc (n := 1) (md := zmd_20) zh_20 (by decide +kernel) rfl (by decide +kernel)
theorem zr_20_39 : zOK zPre 20 39 (s_go (nat_lit 13)) := ok_go (off := -26) (md := zmd_20) zh_20 (by decide +kernel) (by decide +kernel)
theorem zr_20_42 : zOK zPre 20 42 (s_new (nat_lit 9) (nat_lit 2) [(nat_lit 0), (nat_lit 5)] (nat_lit 45)) := ok_new0 (fsV := zfv_X10) (by decide) zfs_X10 (zrow_new (index := 62) (C := RX10) (T := TX10) (N := 2) (ty0 := tyX10) (md := zmd_20) zh_20 (by decide +kernel) rfl rfl zu_X10 tyX10_ok zw_6_199 zw_7_29 zw_1_19 zdf_X10)
theorem zr_20_45 : zOK zPre 20 45 (s_dup (nat_lit 46)) := ok_dup (md := zmd_20) zh_20 (by decide +kernel) rfl
theorem zr_20_46 : zOK zPre 20 46 (s_ld_0 (nat_lit 18436) (nat_lit 47)) := zokE (zld_0 _ _) (ok_ld0 (t := 1) (i := 0) (zrow_lload_n (k := 0) (md := zmd_20) zh_20 (by decide +kernel) rfl rfl))
theorem zr_20_47 : zOK zPre 20 47 (s_k (nat_lit 2) (nat_lit 48)) := ok_lconst (n := 0) (md := zmd_20) zh_20 (by decide +kernel) rfl (by decide +kernel)
theorem zr_20_48 : zOK zPre 20 48 (s_lcmp (nat_lit 49)) := ok_lcmp (md := zmd_20) zh_20 (by decide +kernel) rfl
theorem zr_20_49 : zOK zPre 20 49 (s_if (nat_lit 3) zi_ge (nat_lit 56) (nat_lit 52)) := ok_if_ge (off := 7) (md := zmd_20) zh_20 (by decide +kernel) (by decide +kernel) rfl
theorem zr_20_52 : zOK zPre 20 52 (s_k (nat_lit 68719476720) (nat_lit 53)) := ok_iconst (n := -1) (md := zmd_20) zh_20 (by decide +kernel) rfl (by decide +kernel)
theorem zr_20_53 : zOK zPre 20 53 (s_go (nat_lit 57)) := ok_go (off := 4) (md := zmd_20) zh_20 (by decide +kernel) (by decide +kernel)
theorem zr_20_56 : zOK zPre 20 56 (s_k (nat_lit 16) (nat_lit 57)) := ok_iconst (n := 1) (md := zmd_20) zh_20 (by decide +kernel) rfl (by decide +kernel)
theorem zr_20_57 : zOK zPre 20 57 (s_ld_4 (nat_lit 1136) (nat_lit 59)) := zokE (zld_4 _ _) (ok_ld0 (t := 4) (i := 4) (zrow_aload (md := zmd_20) zh_20 (by decide +kernel) rfl))
theorem zr_20_59 : zOK zPre 20 59 (s_call (nat_lit 99) (nat_lit 22) (nat_lit 3) (nat_lit 1) (nat_lit 1) [] (nat_lit 62)) := ok_call (md := zmd_20) zh_20 zh_22 rfl (by decide) (by decide) (Or.inl rfl) zp_22 (zrow_callS (mdc := zmd_22) (index := 14) (md := zmd_20) zh_20 (by decide +kernel) rfl rfl zc_22 zw_7_30 zw_7_31 zw_1_10 zd_22) trivial
theorem zr_20_62 : zOK zPre 20 62 (s_call (nat_lit 9) (nat_lit 23) (nat_lit 3) (nat_lit 3) (nat_lit 0) [] (nat_lit 65)) := ok_call (md := zmd_20) zh_20 zh_23 rfl (by decide) (by decide) (Or.inr (by decide)) zp_23 (zrow_callI (mdc := zmd_23) (index := 64) (md := zmd_20) zh_20 (by decide +kernel) rfl rfl rfl rfl zc_23 (by decide) zw_7_34 zw_7_35 zw_1_19 zd_23) trivial
theorem zr_20_65 : zOK zPre 20 65 (s_ret (nat_lit 1136)) := ok_ret0 (t := 4) (i := .areturn) (md := zmd_20) zh_20 rfl (by decide +kernel) ⟨Or.inl ⟨_, rfl⟩, rfl⟩
theorem zr_21_0 : zOK zPre 21 0 (s_ld_0 (nat_lit 18436) (nat_lit 1)) := zokE (zld_0 _ _) (ok_ld0 (t := 1) (i := 0) (zrow_lload_n (k := 0) (md := zmd_21) zh_21 (by decide +kernel) rfl rfl))
theorem zr_21_1 : zOK zPre 21 1 (s_k (nat_lit 2) (nat_lit 2)) := ok_lconst (n := 0) (md := zmd_21) zh_21 (by decide +kernel) rfl (by decide +kernel)
theorem zr_21_2 : zOK zPre 21 2 (s_lcmp (nat_lit 3)) := ok_lcmp (md := zmd_21) zh_21 (by decide +kernel) rfl
theorem zr_21_3 : zOK zPre 21 3 (s_if (nat_lit 3) zi_ge (nat_lit 11) (nat_lit 6)) := ok_if_ge (off := 8) (md := zmd_21) zh_21 (by decide +kernel) (by decide +kernel) rfl
theorem zr_21_6 : zOK zPre 21 6 (s_ld_0 (nat_lit 18436) (nat_lit 7)) := zokE (zld_0 _ _) (ok_ld0 (t := 1) (i := 0) (zrow_lload_n (k := 0) (md := zmd_21) zh_21 (by decide +kernel) rfl rfl))
theorem zr_21_7 : zOK zPre 21 7 (s_lneg (nat_lit 8)) := ok_lneg (md := zmd_21) zh_21 (by decide +kernel) rfl
theorem zr_21_8 : zOK zPre 21 8 (s_go (nat_lit 12)) := ok_go (off := 4) (md := zmd_21) zh_21 (by decide +kernel) (by decide +kernel)
theorem zr_21_11 : zOK zPre 21 11 (s_ld_0 (nat_lit 18436) (nat_lit 12)) := zokE (zld_0 _ _) (ok_ld0 (t := 1) (i := 0) (zrow_lload_n (k := 0) (md := zmd_21) zh_21 (by decide +kernel) rfl rfl))
theorem zr_21_12 : zOK zPre 21 12 (s_ret (nat_lit 18436)) := ok_ret0 (t := 1) (i := .lreturn) (ty := .long) (md := zmd_21) zh_21 rfl (by decide +kernel) ⟨rfl, rfl⟩
theorem zr_22_0 : zOK zPre 22 0 (s_ld_0 (nat_lit 1136) (nat_lit 1)) := zokE (zld_0 _ _) (ok_ld0 (t := 4) (i := 0) (zrow_aload_n (k := 0) (md := zmd_22) zh_22 (by decide +kernel) rfl rfl))
theorem zr_22_1 : zOK zPre 22 1 (s_al (nat_lit 2)) := ok_al (md := zmd_22) zh_22 (by decide +kernel) rfl
theorem zr_22_2 : zOK zPre 22 2 (s_s1_1 (nat_lit 45067) (nat_lit 3)) := zokE (zs1_1 _ _) (ok_s10 (t := 0) (i := 1) (zrow_istore_n (k := 1) (md := zmd_22) zh_22 (by decide +kernel) rfl rfl))
theorem zr_22_3 : zOK zPre 22 3 (s_ld_1 (nat_lit 45067) (nat_lit 4)) := zokE (zld_1 _ _) (ok_ld0 (t := 0) (i := 1) (zrow_iload_n (k := 1) (md := zmd_22) zh_22 (by decide +kernel) rfl rfl))
theorem zr_22_4 : zOK zPre 22 4 (s_if (nat_lit 5) zi_le (nat_lit 21) (nat_lit 7)) := ok_if_le (off := 17) (md := zmd_22) zh_22 (by decide +kernel) (by decide +kernel) rfl
theorem zr_22_7 : zOK zPre 22 7 (s_ld_0 (nat_lit 1136) (nat_lit 8)) := zokE (zld_0 _ _) (ok_ld0 (t := 4) (i := 0) (zrow_aload_n (k := 0) (md := zmd_22) zh_22 (by decide +kernel) rfl rfl))
theorem zr_22_8 : zOK zPre 22 8 (s_ld_1 (nat_lit 45067) (nat_lit 9)) := zokE (zld_1 _ _) (ok_ld0 (t := 0) (i := 1) (zrow_iload_n (k := 1) (md := zmd_22) zh_22 (by decide +kernel) rfl rfl))
theorem zr_22_9 : zOK zPre 22 9 (s_k (nat_lit 16) (nat_lit 10)) := ok_iconst (n := 1) (md := zmd_22) zh_22 (by decide +kernel) rfl (by decide +kernel)
theorem zr_22_10 : zOK zPre 22 10 (s_isub (nat_lit 11)) := ok_isub (md := zmd_22) zh_22 (by decide +kernel) rfl
theorem zr_22_11 : zOK zPre 22 11 (s_ald (nat_lit 20) (nat_lit 20) (nat_lit 12)) := ok_ald0 (by decide) (by decide) (by decide) (zrow_iaload (md := zmd_22) zh_22 (by decide +kernel) rfl)
theorem zr_22_12 : zOK zPre 22 12 (s_if (nat_lit 1) zi_ne (nat_lit 21) (nat_lit 15)) := ok_if_ne (off := 9) (md := zmd_22) zh_22 (by decide +kernel) (by decide +kernel) rfl
theorem zr_22_15 : zOK zPre 22 15 (s_inc (nat_lit 1) (nat_lit 68719476720) (nat_lit 18)) := ok_inc (n := -1) (md := zmd_22) zh_22 (by decide +kernel) rfl (by decide +kernel)
theorem zr_22_18 : zOK zPre 22 18 (s_go (nat_lit 3)) := ok_go (off := -15) (md := zmd_22) zh_22 (by decide +kernel) (by decide +kernel)
theorem zr_22_21 : zOK zPre 22 21 (s_ld_1 (nat_lit 45067) (nat_lit 22)) := zokE (zld_1 _ _) (ok_ld0 (t := 0) (i := 1) (zrow_iload_n (k := 1) (md := zmd_22) zh_22 (by decide +kernel) rfl rfl))
theorem zr_22_22 : zOK zPre 22 22 (s_ld_0 (nat_lit 1136) (nat_lit 23)) := zokE (zld_0 _ _) (ok_ld0 (t := 4) (i := 0) (zrow_aload_n (k := 0) (md := zmd_22) zh_22 (by decide +kernel) rfl rfl))
theorem zr_22_23 : zOK zPre 22 23 (s_al (nat_lit 24)) := ok_al (md := zmd_22) zh_22 (by decide +kernel) rfl
theorem zr_22_24 : zOK zPre 22 24 (s_ic (nat_lit 1) zu_ne (nat_lit 29) (nat_lit 27)) := ok_ic_ne (off := 5) (md := zmd_22) zh_22 (by decide +kernel) (by decide +kernel) rfl
theorem zr_22_27 : zOK zPre 22 27 (s_ld_0 (nat_lit 1136) (nat_lit 28)) := zokE (zld_0 _ _) (ok_ld0 (t := 4) (i := 0) (zrow_aload_n (k := 0) (md := zmd_22) zh_22 (by decide +kernel) rfl rfl))
theorem zr_22_28 : zOK zPre 22 28 (s_ret (nat_lit 1136)) := ok_ret0 (t := 4) (i := .areturn) (md := zmd_22) zh_22 rfl (by decide +kernel) ⟨Or.inr ⟨_, rfl⟩, rfl⟩
theorem zr_22_29 : zOK zPre 22 29 (s_ld_1 (nat_lit 45067) (nat_lit 30)) := zokE (zld_1 _ _) (ok_ld0 (t := 0) (i := 1) (zrow_iload_n (k := 1) (md := zmd_22) zh_22 (by decide +kernel) rfl rfl))
theorem zr_22_30 : zOK zPre 22 30 (s_na (nat_lit 20) (nat_lit 0) (nat_lit 32)) := ok_na0 (by decide) rfl (zrow_na20 (md := zmd_22) zh_22 (by decide +kernel) rfl zw_1_83)
theorem zr_22_32 : zOK zPre 22 32 (s_s1_2 (nat_lit 1136) (nat_lit 33)) := zokE (zs1_2 _ _) (ok_s10 (t := 4) (i := 2) (zrow_astore_n (k := 2) (md := zmd_22) zh_22 (by decide +kernel) rfl rfl))
theorem zr_22_33 : zOK zPre 22 33 (s_ld_0 (nat_lit 1136) (nat_lit 34)) := zokE (zld_0 _ _) (ok_ld0 (t := 4) (i := 0) (zrow_aload_n (k := 0) (md := zmd_22) zh_22 (by decide +kernel) rfl rfl))
theorem zr_22_34 : zOK zPre 22 34 (s_k (nat_lit 0) (nat_lit 35)) := ok_iconst (n := 0) (md := zmd_22) zh_22 (by decide +kernel) rfl (by decide +kernel)
theorem zr_22_35 : zOK zPre 22 35 (s_ld_2 (nat_lit 1136) (nat_lit 36)) := zokE (zld_2 _ _) (ok_ld0 (t := 4) (i := 2) (zrow_aload_n (k := 2) (md := zmd_22) zh_22 (by decide +kernel) rfl rfl))
theorem zr_22_36 : zOK zPre 22 36 (s_k (nat_lit 0) (nat_lit 37)) := ok_iconst (n := 0) (md := zmd_22) zh_22 (by decide +kernel) rfl (by decide +kernel)
theorem zr_22_37 : zOK zPre 22 37 (s_ld_1 (nat_lit 45067) (nat_lit 38)) := zokE (zld_1 _ _) (ok_ld0 (t := 0) (i := 1) (zrow_iload_n (k := 1) (md := zmd_22) zh_22 (by decide +kernel) rfl rfl))
theorem zr_22_38 : zOK zPre 22 38 (s_cp (nat_lit 41)) := ok_cp (index := 1) (md := zmd_22) zh_22 (by decide +kernel) rfl zw_7_33 zw_3_138 zw_3_137 zw_1_20
theorem zr_22_41 : zOK zPre 22 41 (s_ld_2 (nat_lit 1136) (nat_lit 42)) := zokE (zld_2 _ _) (ok_ld0 (t := 4) (i := 2) (zrow_aload_n (k := 2) (md := zmd_22) zh_22 (by decide +kernel) rfl rfl))
theorem zr_22_42 : zOK zPre 22 42 (s_ret (nat_lit 1136)) := ok_ret0 (t := 4) (i := .areturn) (md := zmd_22) zh_22 rfl (by decide +kernel) ⟨Or.inr ⟨_, rfl⟩, rfl⟩
theorem zr_23_0 : zOK zPre 23 0 (s_ld_0 (nat_lit 1136) (nat_lit 1)) := zokE (zld_0 _ _) (ok_ld0 (t := 4) (i := 0) (zrow_aload_n (k := 0) (md := zmd_23) zh_23 (by decide +kernel) rfl rfl))
theorem zr_23_1 : zOK zPre 23 1 (s_oi (nat_lit 4)) := ok_oi (index := 1) (md := zmd_23) zh_23 (by decide +kernel) rfl zw_7_37 zw_1_48 zw_oi
theorem zr_23_4 : zOK zPre 23 4 (s_ld_0 (nat_lit 1136) (nat_lit 5)) := zokE (zld_0 _ _) (ok_ld0 (t := 4) (i := 0) (zrow_aload_n (k := 0) (md := zmd_23) zh_23 (by decide +kernel) rfl rfl))
theorem zr_23_5 : zOK zPre 23 5 (s_ld_2 (nat_lit 1136) (nat_lit 6)) := zokE (zld_2 _ _) (ok_ld0 (t := 4) (i := 2) (zrow_aload_n (k := 2) (md := zmd_23) zh_23 (by decide +kernel) rfl rfl))
theorem zr_23_6 : zOK zPre 23 6 (s_al (nat_lit 7)) := ok_al (md := zmd_23) zh_23 (by decide +kernel) rfl
theorem zr_23_7 : zOK zPre 23 7 (s_if (nat_lit 1) zi_ne (nat_lit 14) (nat_lit 10)) := ok_if_ne (off := 7) (md := zmd_23) zh_23 (by decide +kernel) (by decide +kernel) rfl
theorem zr_23_10 : zOK zPre 23 10 (s_k (nat_lit 0) (nat_lit 11)) := ok_iconst (n := 0) (md := zmd_23) zh_23 (by decide +kernel) rfl (by decide +kernel)
theorem zr_23_11 : zOK zPre 23 11 (s_go (nat_lit 15)) := ok_go (off := 4) (md := zmd_23) zh_23 (by decide +kernel) (by decide +kernel)
theorem zr_23_14 : zOK zPre 23 14 (s_ld_1 (nat_lit 45067) (nat_lit 15)) := zokE (zld_1 _ _) (ok_ld0 (t := 0) (i := 1) (zrow_iload_n (k := 1) (md := zmd_23) zh_23 (by decide +kernel) rfl rfl))
theorem zr_23_15 : zOK zPre 23 15 (s_pf (nat_lit 9) (nat_lit 0) (nat_lit 0) (nat_lit 18)) := ok_pf0 (by decide) (zrow_pfF (ty := .int) (index := 7) (ref := "ResidueworksModel$Whole") (C := RX10) (T := TX10) (N := 2) (ty0 := tyX10) (md := zmd_23) zh_23 (by decide +kernel) rfl rfl (by decide) zu_X10 tyX10_ok nmX10 zw_7_38 rfl rfl rfl rfl (by decide +kernel) zfty0)
theorem zr_23_18 : zOK zPre 23 18 (s_ld_0 (nat_lit 1136) (nat_lit 19)) := zokE (zld_0 _ _) (ok_ld0 (t := 4) (i := 0) (zrow_aload_n (k := 0) (md := zmd_23) zh_23 (by decide +kernel) rfl rfl))
theorem zr_23_19 : zOK zPre 23 19 (s_ld_2 (nat_lit 1136) (nat_lit 20)) := zokE (zld_2 _ _) (ok_ld0 (t := 4) (i := 2) (zrow_aload_n (k := 2) (md := zmd_23) zh_23 (by decide +kernel) rfl rfl))
theorem zr_23_20 : zOK zPre 23 20 (s_pf (nat_lit 9) (nat_lit 1) (nat_lit 5) (nat_lit 23)) := ok_pf0 (by decide) (zrow_pfF (ty := tyX10 1) (index := 13) (ref := "ResidueworksModel$Whole") (C := RX10) (T := TX10) (N := 2) (ty0 := tyX10) (md := zmd_23) zh_23 (by decide +kernel) rfl rfl (by decide) zu_X10 tyX10_ok nmX10 zw_7_40 rfl rfl rfl rfl (by decide +kernel) zfty5a)
theorem zr_23_23 : zOK zPre 23 23 (s_rv) := ok_rv (md := zmd_23) zh_23 rfl (by decide +kernel)
theorem zr_24_0 : zOK zPre 24 0 (s_ld_4 (nat_lit 1136) (nat_lit 2)) := zokE (zld_4 _ _) (ok_ld0 (t := 4) (i := 4) (zrow_aload (md := zmd_24) zh_24 (by decide +kernel) rfl))
theorem zr_24_2 : zOK zPre 24 2 (s_k (nat_lit 0) (nat_lit 3)) := ok_iconst (n := 0) (md := zmd_24) zh_24 (by decide +kernel) rfl (by decide +kernel)
theorem zr_24_3 : zOK zPre 24 3 (s_ld_0 (nat_lit 1136) (nat_lit 4)) := zokE (zld_0 _ _) (ok_ld0 (t := 4) (i := 0) (zrow_aload_n (k := 0) (md := zmd_24) zh_24 (by decide +kernel) rfl rfl))
theorem zr_24_4 : zOK zPre 24 4 (s_ld_1 (nat_lit 45067) (nat_lit 5)) := zokE (zld_1 _ _) (ok_ld0 (t := 0) (i := 1) (zrow_iload_n (k := 1) (md := zmd_24) zh_24 (by decide +kernel) rfl rfl))
theorem zr_24_5 : zOK zPre 24 5 (s_ld_2 (nat_lit 18436) (nat_lit 6)) := zokE (zld_2 _ _) (ok_ld0 (t := 1) (i := 2) (zrow_lload_n (k := 2) (md := zmd_24) zh_24 (by decide +kernel) rfl rfl))
theorem zr_24_6 : zOK zPre 24 6 (s_call (nat_lit 8) (nat_lit 25) (nat_lit 5) (nat_lit 3) (nat_lit 1) [((nat_lit 0), (nat_lit 5), (nat_lit 16))] (nat_lit 9)) := ok_call (md := zmd_24) zh_24 zh_25 rfl (by decide) (by decide) (Or.inr (by decide)) zp_25 (zrow_callV (mdc := zmd_25) (index := 7) (md := zmd_24) zh_24 (by decide +kernel) rfl rfl zc_25 rfl (by decide) zw_3_65 zw_3_66 zw_3_67 zw_1_1 zd_25) ⟨⟨by decide, by decide, by decide, by decide, zw_2_226, zw_3_75, zrow_astore (md := zmd_24) zh_24 (by decide +kernel) rfl⟩, trivial⟩
theorem zr_24_9 : zOK zPre 24 9 (s_i2l (nat_lit 10)) := ok_i2l (md := zmd_24) zh_24 (by decide +kernel) rfl
theorem zr_24_10 : zOK zPre 24 10 (s_ast (nat_lit 21) (nat_lit 4) (nat_lit 11)) := ok_astL rfl rfl (zrow_lastore (md := zmd_24) zh_24 (by decide +kernel) rfl)
theorem zr_24_11 : zOK zPre 24 11 (s_go (nat_lit 18)) := ok_go (off := 7) (md := zmd_24) zh_24 (by decide +kernel) (by decide +kernel)
theorem zr_24_16 : zOK zPre 24 16 (s_k (nat_lit 16) (nat_lit 17)) := ok_iconst (n := 1) (md := zmd_24) zh_24 (by decide +kernel) rfl (by decide +kernel)
theorem zr_24_17 : zOK zPre 24 17 (s_ret (nat_lit 45067)) := ok_ret0 (t := 0) (i := .ireturn) (ty := .int) (md := zmd_24) zh_24 rfl (by decide +kernel) ⟨rfl, rfl⟩
theorem zr_24_18 : zOK zPre 24 18 (s_k (nat_lit 0) (nat_lit 19)) := ok_iconst (n := 0) (md := zmd_24) zh_24 (by decide +kernel) rfl (by decide +kernel)
theorem zr_24_19 : zOK zPre 24 19 (s_ret (nat_lit 45067)) := ok_ret0 (t := 0) (i := .ireturn) (ty := .int) (md := zmd_24) zh_24 rfl (by decide +kernel) ⟨rfl, rfl⟩
theorem zr_25_0 : zOK zPre 25 0 (s_ld_0 (nat_lit 1136) (nat_lit 1)) := zokE (zld_0 _ _) (ok_ld0 (t := 4) (i := 0) (zrow_aload_n (k := 0) (md := zmd_25) zh_25 (by decide +kernel) rfl rfl))
theorem zr_25_1 : zOK zPre 25 1 (s_ld_1 (nat_lit 45067) (nat_lit 2)) := zokE (zld_1 _ _) (ok_ld0 (t := 0) (i := 1) (zrow_iload_n (k := 1) (md := zmd_25) zh_25 (by decide +kernel) rfl rfl))
theorem zr_25_2 : zOK zPre 25 2 (s_call (nat_lit 8) (nat_lit 26) (nat_lit 2) (nat_lit 2) (nat_lit 1) [] (nat_lit 5)) := ok_call (md := zmd_25) zh_25 zh_26 rfl (by decide) (by decide) (Or.inr (by decide)) zp_26 (zrow_callV (mdc := zmd_26) (index := 72) (md := zmd_25) zh_25 (by decide +kernel) rfl rfl zc_26 rfl (by decide) zw_3_69 zw_3_71 zws_1 zw_1_1 zd_26) trivial
theorem zr_25_5 : zOK zPre 25 5 (s_s1_4 (nat_lit 1136) (nat_lit 7)) := zokE (zs1_4 _ _) (ok_s10 (t := 4) (i := 4) (zrow_astore (md := zmd_25) zh_25 (by decide +kernel) rfl))
theorem zr_25_7 : zOK zPre 25 7 (s_ld_4 (nat_lit 1136) (nat_lit 9)) := zokE (zld_4 _ _) (ok_ld0 (t := 4) (i := 4) (zrow_aload (md := zmd_25) zh_25 (by decide +kernel) rfl))
theorem zr_25_9 : zOK zPre 25 9 (s_ld_2 (nat_lit 18436) (nat_lit 10)) := zokE (zld_2 _ _) (ok_ld0 (t := 1) (i := 2) (zrow_lload_n (k := 2) (md := zmd_25) zh_25 (by decide +kernel) rfl rfl))
theorem zr_25_10 : zOK zPre 25 10 (s_call (nat_lit 7) (nat_lit 10) (nat_lit 3) (nat_lit 2) (nat_lit 0) [] (nat_lit 13)) := ok_call (md := zmd_25) zh_25 zh_10 rfl (by decide) (by decide) (Or.inr (by decide)) zp_10 (zrow_callV (mdc := zmd_10) (index := 76) (md := zmd_25) zh_25 (by decide +kernel) rfl rfl zc_10 rfl (by decide) zw_3_86 zw_2_61 zw_2_62 zw_1_3 zd_10) trivial
theorem zr_25_13 : zOK zPre 25 13 (s_ld_4 (nat_lit 1136) (nat_lit 15)) := zokE (zld_4 _ _) (ok_ld0 (t := 4) (i := 4) (zrow_aload (md := zmd_25) zh_25 (by decide +kernel) rfl))
theorem zr_25_15 : zOK zPre 25 15 (s_call (nat_lit 7) (nat_lit 27) (nat_lit 2) (nat_lit 1) (nat_lit 1) [] (nat_lit 18)) := ok_call (md := zmd_25) zh_25 zh_27 rfl (by decide) (by decide) (Or.inr (by decide)) zp_27 (zrow_callV (mdc := zmd_27) (index := 80) (md := zmd_25) zh_25 (by decide +kernel) rfl rfl zc_27 rfl (by decide) zw_2_172 zw_2_173 zw_2_174 zw_1_3 zd_27) trivial
theorem zr_25_18 : zOK zPre 25 18 (s_ret (nat_lit 45067)) := ok_ret0 (t := 0) (i := .ireturn) (ty := .int) (md := zmd_25) zh_25 rfl (by decide +kernel) ⟨rfl, rfl⟩
theorem zr_26_0 : zOK zPre 26 0 (s_ld_1 (nat_lit 45067) (nat_lit 1)) := zokE (zld_1 _ _) (ok_ld0 (t := 0) (i := 1) (zrow_iload_n (k := 1) (md := zmd_26) zh_26 (by decide +kernel) rfl rfl))
theorem zr_26_1 : zOK zPre 26 1 (s_if (nat_lit 2) zi_lt (nat_lit 13) (nat_lit 4)) := ok_if_lt (off := 12) (md := zmd_26) zh_26 (by decide +kernel) (by decide +kernel) rfl
theorem zr_26_4 : zOK zPre 26 4 (s_ld_1 (nat_lit 45067) (nat_lit 5)) := zokE (zld_1 _ _) (ok_ld0 (t := 0) (i := 1) (zrow_iload_n (k := 1) (md := zmd_26) zh_26 (by decide +kernel) rfl rfl))
theorem zr_26_5 : zOK zPre 26 5 (s_ld_0 (nat_lit 1136) (nat_lit 6)) := zokE (zld_0 _ _) (ok_ld0 (t := 4) (i := 0) (zrow_aload_n (k := 0) (md := zmd_26) zh_26 (by decide +kernel) rfl rfl))
theorem zr_26_6 : zOK zPre 26 6 (s_gf (nat_lit 8) (nat_lit 0) (nat_lit 9)) := ok_gf0 (by decide) (zrow_gf (index := 11) (ref := "Residueworks") (C := RX9) (T := TX9) (N := 10) (md := zmd_26) zh_26 (by decide +kernel) rfl rfl (by decide) zu_X9 zw_2_125 rfl)
theorem zr_26_9 : zOK zPre 26 9 (s_al (nat_lit 10)) := ok_al (md := zmd_26) zh_26 (by decide +kernel) rfl
theorem zr_26_10 : zOK zPre 26 10 (s_ic (nat_lit 2) zu_lt (nat_lit 24) (nat_lit 13)) := ok_ic_lt (off := 14) (md := zmd_26) zh_26 (by decide +kernel) (by decide +kernel) rfl
theorem zr_26_13 : zOK zPre 26 13 (s_thr (nat_lit 0)) := ok_thrSW (ik := 201) (is := 375) (ic := 205) (tx := "no such register") (md := zmd_26) zh_26 rfl rfl zth_201_205_0 (List.mem_of_getElem? (i := 22) rfl) (by decide +kernel) (by decide +kernel) (by decide +kernel) (by decide +kernel) (by decide +kernel)
theorem zr_26_24 : zOK zPre 26 24 (s_ld_0 (nat_lit 1136) (nat_lit 25)) := zokE (zld_0 _ _) (ok_ld0 (t := 4) (i := 0) (zrow_aload_n (k := 0) (md := zmd_26) zh_26 (by decide +kernel) rfl rfl))
theorem zr_26_25 : zOK zPre 26 25 (s_gf (nat_lit 8) (nat_lit 0) (nat_lit 28)) := ok_gf0 (by decide) (zrow_gf (index := 11) (ref := "Residueworks") (C := RX9) (T := TX9) (N := 10) (md := zmd_26) zh_26 (by decide +kernel) rfl rfl (by decide) zu_X9 zw_2_125 rfl)
theorem zr_26_28 : zOK zPre 26 28 (s_ld_1 (nat_lit 45067) (nat_lit 29)) := zokE (zld_1 _ _) (ok_ld0 (t := 0) (i := 1) (zrow_iload_n (k := 1) (md := zmd_26) zh_26 (by decide +kernel) rfl rfl))
theorem zr_26_29 : zOK zPre 26 29 (s_ald (nat_lit 25) (nat_lit 29) (nat_lit 30)) := ok_ald0 (by decide) (by decide) (by decide) (zrow_aaload (md := zmd_26) zh_26 (by decide +kernel) rfl)
theorem zr_26_30 : zOK zPre 26 30 (s_ret (nat_lit 1136)) := ok_ret0 (t := 4) (i := .areturn) (md := zmd_26) zh_26 rfl (by decide +kernel) ⟨Or.inl ⟨_, rfl⟩, rfl⟩
theorem zr_27_0 : zOK zPre 27 0 (s_ld_0 (nat_lit 1136) (nat_lit 1)) := zokE (zld_0 _ _) (ok_ld0 (t := 4) (i := 0) (zrow_aload_n (k := 0) (md := zmd_27) zh_27 (by decide +kernel) rfl rfl))
theorem zr_27_1 : zOK zPre 27 1 (s_call (nat_lit 7) (nat_lit 28) (nat_lit 1) (nat_lit 1) (nat_lit 1) [] (nat_lit 4)) := ok_call (md := zmd_27) zh_27 zh_28 rfl (by decide) (by decide) (Or.inr (by decide)) zp_28 (zrow_callV (mdc := zmd_28) (index := 62) (md := zmd_27) zh_27 (by decide +kernel) rfl rfl zc_28 rfl (by decide) zw_2_176 zw_2_177 zw_2_178 zw_1_3 zd_28) trivial
theorem zr_27_4 : zOK zPre 27 4 (s_s1_1 (nat_lit 45067) (nat_lit 5)) := zokE (zs1_1 _ _) (ok_s10 (t := 0) (i := 1) (zrow_istore_n (k := 1) (md := zmd_27) zh_27 (by decide +kernel) rfl rfl))
theorem zr_27_5 : zOK zPre 27 5 (s_ld_0 (nat_lit 1136) (nat_lit 6)) := zokE (zld_0 _ _) (ok_ld0 (t := 4) (i := 0) (zrow_aload_n (k := 0) (md := zmd_27) zh_27 (by decide +kernel) rfl rfl))
theorem zr_27_6 : zOK zPre 27 6 (s_gf (nat_lit 7) (nat_lit 2) (nat_lit 9)) := ok_gf0 (by decide) (zrow_gf (index := 17) (ref := "Residueworks$Whole") (C := RX8) (T := TX8) (N := 3) (md := zmd_27) zh_27 (by decide +kernel) rfl rfl (by decide) zu_X8 zw_1_69 rfl)
theorem zr_27_9 : zOK zPre 27 9 (s_if (nat_lit 3) zi_ge (nat_lit 28) (nat_lit 12)) := ok_if_ge (off := 19) (md := zmd_27) zh_27 (by decide +kernel) (by decide +kernel) rfl
theorem zr_27_12 : zOK zPre 27 12 (s_ld_0 (nat_lit 1136) (nat_lit 13)) := zokE (zld_0 _ _) (ok_ld0 (t := 4) (i := 0) (zrow_aload_n (k := 0) (md := zmd_27) zh_27 (by decide +kernel) rfl rfl))
theorem zr_27_13 : zOK zPre 27 13 (s_call (nat_lit 7) (nat_lit 40) (nat_lit 2) (nat_lit 1) (nat_lit 1) [] (nat_lit 16)) := ok_call (md := zmd_27) zh_27 zh_40 rfl (by decide) (by decide) (Or.inr (by decide)) zp_40 (zrow_callV (mdc := zmd_40) (index := 66) (md := zmd_27) zh_27 (by decide +kernel) rfl rfl zc_40 rfl (by decide) zw_2_188 zw_2_189 zw_2_190 zw_1_3 zd_40) trivial
theorem zr_27_16 : zOK zPre 27 16 (s_ld_1 (nat_lit 45067) (nat_lit 17)) := zokE (zld_1 _ _) (ok_ld0 (t := 0) (i := 1) (zrow_iload_n (k := 1) (md := zmd_27) zh_27 (by decide +kernel) rfl rfl))
theorem zr_27_17 : zOK zPre 27 17 (s_k (nat_lit 16) (nat_lit 18)) := ok_iconst (n := 1) (md := zmd_27) zh_27 (by decide +kernel) rfl (by decide +kernel)
theorem zr_27_18 : zOK zPre 27 18 (s_isub (nat_lit 19)) := ok_isub (md := zmd_27) zh_27 (by decide +kernel) rfl
theorem zr_27_19 : zOK zPre 27 19 (s_ic (nat_lit 1) zu_ne (nat_lit 28) (nat_lit 22)) := ok_ic_ne (off := 9) (md := zmd_27) zh_27 (by decide +kernel) (by decide +kernel) rfl
theorem zr_27_22 : zOK zPre 27 22 (s_ld_1 (nat_lit 45067) (nat_lit 23)) := zokE (zld_1 _ _) (ok_ld0 (t := 0) (i := 1) (zrow_iload_n (k := 1) (md := zmd_27) zh_27 (by decide +kernel) rfl rfl))
theorem zr_27_23 : zOK zPre 27 23 (s_k (nat_lit 16) (nat_lit 24)) := ok_iconst (n := 1) (md := zmd_27) zh_27 (by decide +kernel) rfl (by decide +kernel)
theorem zr_27_24 : zOK zPre 27 24 (s_isub (nat_lit 25)) := ok_isub (md := zmd_27) zh_27 (by decide +kernel) rfl
theorem zr_27_25 : zOK zPre 27 25 (s_go (nat_lit 29)) := ok_go (off := 4) (md := zmd_27) zh_27 (by decide +kernel) (by decide +kernel)
theorem zr_27_28 : zOK zPre 27 28 (s_ld_1 (nat_lit 45067) (nat_lit 29)) := zokE (zld_1 _ _) (ok_ld0 (t := 0) (i := 1) (zrow_iload_n (k := 1) (md := zmd_27) zh_27 (by decide +kernel) rfl rfl))
theorem zr_27_29 : zOK zPre 27 29 (s_ret (nat_lit 45067)) := ok_ret0 (t := 0) (i := .ireturn) (ty := .int) (md := zmd_27) zh_27 rfl (by decide +kernel) ⟨rfl, rfl⟩
theorem zr_28_0 : zOK zPre 28 0 (s_ld_0 (nat_lit 1136) (nat_lit 1)) := zokE (zld_0 _ _) (ok_ld0 (t := 4) (i := 0) (zrow_aload_n (k := 0) (md := zmd_28) zh_28 (by decide +kernel) rfl rfl))
theorem zr_28_1 : zOK zPre 28 1 (s_gf (nat_lit 7) (nat_lit 1) (nat_lit 4)) := ok_gf0 (by decide) (zrow_gf (index := 13) (ref := "Residueworks$Whole") (C := RX8) (T := TX8) (N := 3) (md := zmd_28) zh_28 (by decide +kernel) rfl rfl (by decide) zu_X8 zw_1_66 rfl)
theorem zr_28_4 : zOK zPre 28 4 (s_if (nat_lit 1) zi_ne (nat_lit 11) (nat_lit 7)) := ok_if_ne (off := 7) (md := zmd_28) zh_28 (by decide +kernel) (by decide +kernel) rfl
theorem zr_28_7 : zOK zPre 28 7 (s_k (nat_lit 0) (nat_lit 8)) := ok_iconst (n := 0) (md := zmd_28) zh_28 (by decide +kernel) rfl (by decide +kernel)
theorem zr_28_8 : zOK zPre 28 8 (s_go (nat_lit 34)) := ok_go (off := 26) (md := zmd_28) zh_28 (by decide +kernel) (by decide +kernel)
theorem zr_28_11 : zOK zPre 28 11 (s_ld_0 (nat_lit 1136) (nat_lit 12)) := zokE (zld_0 _ _) (ok_ld0 (t := 4) (i := 0) (zrow_aload_n (k := 0) (md := zmd_28) zh_28 (by decide +kernel) rfl rfl))
theorem zr_28_12 : zOK zPre 28 12 (s_gf (nat_lit 7) (nat_lit 1) (nat_lit 15)) := ok_gf0 (by decide) (zrow_gf (index := 13) (ref := "Residueworks$Whole") (C := RX8) (T := TX8) (N := 3) (md := zmd_28) zh_28 (by decide +kernel) rfl rfl (by decide) zu_X8 zw_1_66 rfl)
theorem zr_28_15 : zOK zPre 28 15 (s_k (nat_lit 480) (nat_lit 17)) := ok_bipush (n := 30) (md := zmd_28) zh_28 (by decide +kernel) rfl (by decide +kernel)
theorem zr_28_17 : zOK zPre 28 17 (s_imul (nat_lit 18)) := ok_imul (md := zmd_28) zh_28 (by decide +kernel) rfl
theorem zr_28_18 : zOK zPre 28 18 (s_ld_0 (nat_lit 1136) (nat_lit 19)) := zokE (zld_0 _ _) (ok_ld0 (t := 4) (i := 0) (zrow_aload_n (k := 0) (md := zmd_28) zh_28 (by decide +kernel) rfl rfl))
theorem zr_28_19 : zOK zPre 28 19 (s_ld_0 (nat_lit 1136) (nat_lit 20)) := zokE (zld_0 _ _) (ok_ld0 (t := 4) (i := 0) (zrow_aload_n (k := 0) (md := zmd_28) zh_28 (by decide +kernel) rfl rfl))
theorem zr_28_20 : zOK zPre 28 20 (s_gf (nat_lit 7) (nat_lit 1) (nat_lit 23)) := ok_gf0 (by decide) (zrow_gf (index := 13) (ref := "Residueworks$Whole") (C := RX8) (T := TX8) (N := 3) (md := zmd_28) zh_28 (by decide +kernel) rfl rfl (by decide) zu_X8 zw_1_66 rfl)
theorem zr_28_23 : zOK zPre 28 23 (s_k (nat_lit 16) (nat_lit 24)) := ok_iconst (n := 1) (md := zmd_28) zh_28 (by decide +kernel) rfl (by decide +kernel)
theorem zr_28_24 : zOK zPre 28 24 (s_isub (nat_lit 25)) := ok_isub (md := zmd_28) zh_28 (by decide +kernel) rfl
theorem zr_28_25 : zOK zPre 28 25 (s_call (nat_lit 7) (nat_lit 29) (nat_lit 2) (nat_lit 2) (nat_lit 1) [] (nat_lit 28)) := ok_call (md := zmd_28) zh_28 zh_29 rfl (by decide) (by decide) (Or.inr (by decide)) zp_29 (zrow_callV (mdc := zmd_29) (index := 49) (md := zmd_28) zh_28 (by decide +kernel) rfl rfl zc_29 rfl (by decide) zw_2_180 zw_2_181 zw_2_182 zw_1_3 zd_29) trivial
theorem zr_28_28 : zOK zPre 28 28 (s_call (nat_lit 99) (nat_lit 30) (nat_lit 2) (nat_lit 1) (nat_lit 1) [] (nat_lit 31)) := ok_call (md := zmd_28) zh_28 zh_30 rfl (by decide) (by decide) (Or.inl rfl) zp_30 (zrow_callS (mdc := zmd_30) (index := 57) (md := zmd_28) zh_28 (by decide +kernel) rfl rfl zc_30 zw_2_184 zw_2_185 zw_1_27 zd_30) trivial
theorem zr_28_31 : zOK zPre 28 31 (s_k (nat_lit 32) (nat_lit 32)) := ok_iconst (n := 2) (md := zmd_28) zh_28 (by decide +kernel) rfl (by decide +kernel)
theorem zr_28_32 : zOK zPre 28 32 (s_isub (nat_lit 33)) := ok_isub (md := zmd_28) zh_28 (by decide +kernel) rfl
theorem zr_28_33 : zOK zPre 28 33 (s_isub (nat_lit 34)) := ok_isub (md := zmd_28) zh_28 (by decide +kernel) rfl
theorem zr_28_34 : zOK zPre 28 34 (s_ret (nat_lit 45067)) := ok_ret0 (t := 0) (i := .ireturn) (ty := .int) (md := zmd_28) zh_28 rfl (by decide +kernel) ⟨rfl, rfl⟩
theorem zr_29_0 : zOK zPre 29 0 (s_ld_1 (nat_lit 45067) (nat_lit 1)) := zokE (zld_1 _ _) (ok_ld0 (t := 0) (i := 1) (zrow_iload_n (k := 1) (md := zmd_29) zh_29 (by decide +kernel) rfl rfl))
theorem zr_29_1 : zOK zPre 29 1 (s_if (nat_lit 2) zi_lt (nat_lit 30) (nat_lit 4)) := ok_if_lt (off := 29) (md := zmd_29) zh_29 (by decide +kernel) (by decide +kernel) rfl
theorem zr_29_4 : zOK zPre 29 4 (s_ld_1 (nat_lit 45067) (nat_lit 5)) := zokE (zld_1 _ _) (ok_ld0 (t := 0) (i := 1) (zrow_iload_n (k := 1) (md := zmd_29) zh_29 (by decide +kernel) rfl rfl))
theorem zr_29_5 : zOK zPre 29 5 (s_ld_0 (nat_lit 1136) (nat_lit 6)) := zokE (zld_0 _ _) (ok_ld0 (t := 4) (i := 0) (zrow_aload_n (k := 0) (md := zmd_29) zh_29 (by decide +kernel) rfl rfl))
theorem zr_29_6 : zOK zPre 29 6 (s_gf (nat_lit 7) (nat_lit 1) (nat_lit 9)) := ok_gf0 (by decide) (zrow_gf (index := 13) (ref := "Residueworks$Whole") (C := RX8) (T := TX8) (N := 3) (md := zmd_29) zh_29 (by decide +kernel) rfl rfl (by decide) zu_X8 zw_1_66 rfl)
theorem zr_29_9 : zOK zPre 29 9 (s_ic (nat_lit 3) zu_ge (nat_lit 30) (nat_lit 12)) := ok_ic_ge (off := 21) (md := zmd_29) zh_29 (by decide +kernel) (by decide +kernel) rfl
theorem zr_29_12 : zOK zPre 29 12 (s_ld_1 (nat_lit 45067) (nat_lit 13)) := zokE (zld_1 _ _) (ok_ld0 (t := 0) (i := 1) (zrow_iload_n (k := 1) (md := zmd_29) zh_29 (by decide +kernel) rfl rfl))
theorem zr_29_13 : zOK zPre 29 13 (s_ld_0 (nat_lit 1136) (nat_lit 14)) := zokE (zld_0 _ _) (ok_ld0 (t := 4) (i := 0) (zrow_aload_n (k := 0) (md := zmd_29) zh_29 (by decide +kernel) rfl rfl))
theorem zr_29_14 : zOK zPre 29 14 (s_gf (nat_lit 7) (nat_lit 0) (nat_lit 17)) := ok_gf0 (by decide) (zrow_gf (index := 9) (ref := "Residueworks$Whole") (C := RX8) (T := TX8) (N := 3) (md := zmd_29) zh_29 (by decide +kernel) rfl rfl (by decide) zu_X8 zw_1_64 rfl)
theorem zr_29_17 : zOK zPre 29 17 (s_al (nat_lit 18)) := ok_al (md := zmd_29) zh_29 (by decide +kernel) rfl
theorem zr_29_18 : zOK zPre 29 18 (s_ic (nat_lit 3) zu_ge (nat_lit 30) (nat_lit 21)) := ok_ic_ge (off := 12) (md := zmd_29) zh_29 (by decide +kernel) (by decide +kernel) rfl
theorem zr_29_21 : zOK zPre 29 21 (s_ld_0 (nat_lit 1136) (nat_lit 22)) := zokE (zld_0 _ _) (ok_ld0 (t := 4) (i := 0) (zrow_aload_n (k := 0) (md := zmd_29) zh_29 (by decide +kernel) rfl rfl))
theorem zr_29_22 : zOK zPre 29 22 (s_gf (nat_lit 7) (nat_lit 0) (nat_lit 25)) := ok_gf0 (by decide) (zrow_gf (index := 9) (ref := "Residueworks$Whole") (C := RX8) (T := TX8) (N := 3) (md := zmd_29) zh_29 (by decide +kernel) rfl rfl (by decide) zu_X8 zw_1_64 rfl)
theorem zr_29_25 : zOK zPre 29 25 (s_ld_1 (nat_lit 45067) (nat_lit 26)) := zokE (zld_1 _ _) (ok_ld0 (t := 0) (i := 1) (zrow_iload_n (k := 1) (md := zmd_29) zh_29 (by decide +kernel) rfl rfl))
theorem zr_29_26 : zOK zPre 29 26 (s_ald (nat_lit 20) (nat_lit 20) (nat_lit 27)) := ok_ald0 (by decide) (by decide) (by decide) (zrow_iaload (md := zmd_29) zh_29 (by decide +kernel) rfl)
theorem zr_29_27 : zOK zPre 29 27 (s_go (nat_lit 31)) := ok_go (off := 4) (md := zmd_29) zh_29 (by decide +kernel) (by decide +kernel)
theorem zr_29_30 : zOK zPre 29 30 (s_k (nat_lit 0) (nat_lit 31)) := ok_iconst (n := 0) (md := zmd_29) zh_29 (by decide +kernel) rfl (by decide +kernel)
theorem zr_29_31 : zOK zPre 29 31 (s_ret (nat_lit 45067)) := ok_ret0 (t := 0) (i := .ireturn) (ty := .int) (md := zmd_29) zh_29 rfl (by decide +kernel) ⟨rfl, rfl⟩
theorem zr_30_0 : zOK zPre 30 0 (s_ld_0 (nat_lit 45067) (nat_lit 1)) := zokE (zld_0 _ _) (ok_ld0 (t := 0) (i := 0) (zrow_iload_n (k := 0) (md := zmd_30) zh_30 (by decide +kernel) rfl rfl))
theorem zr_30_1 : zOK zPre 30 1 (s_if (nat_lit 4) zi_gt (nat_lit 15) (nat_lit 4)) := ok_if_gt (off := 14) (md := zmd_30) zh_30 (by decide +kernel) (by decide +kernel) rfl
theorem zr_30_4 : zOK zPre 30 4 (s_ld_0 (nat_lit 45067) (nat_lit 5)) := zokE (zld_0 _ _) (ok_ld0 (t := 0) (i := 0) (zrow_iload_n (k := 0) (md := zmd_30) zh_30 (by decide +kernel) rfl rfl))
theorem zr_30_5 : zOK zPre 30 5 (s_if (nat_lit 1) zi_ne (nat_lit 13) (nat_lit 8)) := ok_if_ne (off := 8) (md := zmd_30) zh_30 (by decide +kernel) (by decide +kernel) rfl
theorem zr_30_8 : zOK zPre 30 8 (s_k (nat_lit 512) (nat_lit 10)) := ok_bipush (n := 32) (md := zmd_30) zh_30 (by decide +kernel) rfl (by decide +kernel)
theorem zr_30_10 : zOK zPre 30 10 (s_go (nat_lit 14)) := ok_go (off := 4) (md := zmd_30) zh_30 (by decide +kernel) (by decide +kernel)
theorem zr_30_14 : zOK zPre 30 14 (s_ret (nat_lit 45067)) := ok_ret0 (t := 0) (i := .ireturn) (ty := .int) (md := zmd_30) zh_30 rfl (by decide +kernel) ⟨rfl, rfl⟩
theorem zr_30_15 : zOK zPre 30 15 (s_k (nat_lit 496) (nat_lit 17)) := ok_bipush (n := 31) (md := zmd_30) zh_30 (by decide +kernel) rfl (by decide +kernel)
theorem zr_30_17 : zOK zPre 30 17 (s_s1_1 (nat_lit 45067) (nat_lit 18)) := zokE (zs1_1 _ _) (ok_s10 (t := 0) (i := 1) (zrow_istore_n (k := 1) (md := zmd_30) zh_30 (by decide +kernel) rfl rfl))
theorem zr_30_18 : zOK zPre 30 18 (s_ld_0 (nat_lit 45067) (nat_lit 19)) := zokE (zld_0 _ _) (ok_ld0 (t := 0) (i := 0) (zrow_iload_n (k := 0) (md := zmd_30) zh_30 (by decide +kernel) rfl rfl))
theorem zr_30_19 : zOK zPre 30 19 (s_k (nat_lit 1048576) (nat_lit 22)) := ok_ldcw (i := 264) (n := (65536 : Int32)) (md := zmd_30) zh_30 (by decide +kernel) rfl zw_2_187 (by decide +kernel)
theorem zr_30_22 : zOK zPre 30 22 (s_ic (nat_lit 2) zu_lt (nat_lit 33) (nat_lit 25)) := ok_ic_lt (off := 11) (md := zmd_30) zh_30 (by decide +kernel) (by decide +kernel) rfl
theorem zr_30_25 : zOK zPre 30 25 (s_inc (nat_lit 1) (nat_lit 68719476480) (nat_lit 28)) := ok_inc (n := -16) (md := zmd_30) zh_30 (by decide +kernel) rfl (by decide +kernel)
theorem zr_30_28 : zOK zPre 30 28 (s_ld_0 (nat_lit 45067) (nat_lit 29)) := zokE (zld_0 _ _) (ok_ld0 (t := 0) (i := 0) (zrow_iload_n (k := 0) (md := zmd_30) zh_30 (by decide +kernel) rfl rfl))
theorem zr_30_29 : zOK zPre 30 29 (s_k (nat_lit 256) (nat_lit 31)) := ok_bipush (n := 16) (md := zmd_30) zh_30 (by decide +kernel) rfl (by decide +kernel)
theorem zr_30_31 : zOK zPre 30 31 (s_iushr (nat_lit 32)) := ok_iushr (md := zmd_30) zh_30 (by decide +kernel) rfl
theorem zr_30_32 : zOK zPre 30 32 (s_s1_0 (nat_lit 45067) (nat_lit 33)) := zokE (zs1_0 _ _) (ok_s10 (t := 0) (i := 0) (zrow_istore_n (k := 0) (md := zmd_30) zh_30 (by decide +kernel) rfl rfl))
theorem zr_30_33 : zOK zPre 30 33 (s_ld_0 (nat_lit 45067) (nat_lit 34)) := zokE (zld_0 _ _) (ok_ld0 (t := 0) (i := 0) (zrow_iload_n (k := 0) (md := zmd_30) zh_30 (by decide +kernel) rfl rfl))
theorem zr_30_34 : zOK zPre 30 34 (s_k (nat_lit 4096) (nat_lit 37)) := ok_sipush (n := 256) (md := zmd_30) zh_30 (by decide +kernel) rfl (by decide +kernel)
theorem zr_30_37 : zOK zPre 30 37 (s_ic (nat_lit 2) zu_lt (nat_lit 48) (nat_lit 40)) := ok_ic_lt (off := 11) (md := zmd_30) zh_30 (by decide +kernel) (by decide +kernel) rfl
theorem zr_30_40 : zOK zPre 30 40 (s_inc (nat_lit 1) (nat_lit 68719476608) (nat_lit 43)) := ok_inc (n := -8) (md := zmd_30) zh_30 (by decide +kernel) rfl (by decide +kernel)
theorem zr_30_43 : zOK zPre 30 43 (s_ld_0 (nat_lit 45067) (nat_lit 44)) := zokE (zld_0 _ _) (ok_ld0 (t := 0) (i := 0) (zrow_iload_n (k := 0) (md := zmd_30) zh_30 (by decide +kernel) rfl rfl))
theorem zr_30_44 : zOK zPre 30 44 (s_k (nat_lit 128) (nat_lit 46)) := ok_bipush (n := 8) (md := zmd_30) zh_30 (by decide +kernel) rfl (by decide +kernel)
theorem zr_30_46 : zOK zPre 30 46 (s_iushr (nat_lit 47)) := ok_iushr (md := zmd_30) zh_30 (by decide +kernel) rfl
theorem zr_30_47 : zOK zPre 30 47 (s_s1_0 (nat_lit 45067) (nat_lit 48)) := zokE (zs1_0 _ _) (ok_s10 (t := 0) (i := 0) (zrow_istore_n (k := 0) (md := zmd_30) zh_30 (by decide +kernel) rfl rfl))
theorem zr_30_48 : zOK zPre 30 48 (s_ld_0 (nat_lit 45067) (nat_lit 49)) := zokE (zld_0 _ _) (ok_ld0 (t := 0) (i := 0) (zrow_iload_n (k := 0) (md := zmd_30) zh_30 (by decide +kernel) rfl rfl))
theorem zr_30_49 : zOK zPre 30 49 (s_k (nat_lit 256) (nat_lit 51)) := ok_bipush (n := 16) (md := zmd_30) zh_30 (by decide +kernel) rfl (by decide +kernel)
theorem zr_30_51 : zOK zPre 30 51 (s_ic (nat_lit 2) zu_lt (nat_lit 61) (nat_lit 54)) := ok_ic_lt (off := 10) (md := zmd_30) zh_30 (by decide +kernel) (by decide +kernel) rfl
theorem zr_30_54 : zOK zPre 30 54 (s_inc (nat_lit 1) (nat_lit 68719476672) (nat_lit 57)) := ok_inc (n := -4) (md := zmd_30) zh_30 (by decide +kernel) rfl (by decide +kernel)
theorem zr_30_57 : zOK zPre 30 57 (s_ld_0 (nat_lit 45067) (nat_lit 58)) := zokE (zld_0 _ _) (ok_ld0 (t := 0) (i := 0) (zrow_iload_n (k := 0) (md := zmd_30) zh_30 (by decide +kernel) rfl rfl))
theorem zr_30_58 : zOK zPre 30 58 (s_k (nat_lit 64) (nat_lit 59)) := ok_iconst (n := 4) (md := zmd_30) zh_30 (by decide +kernel) rfl (by decide +kernel)
theorem zr_30_59 : zOK zPre 30 59 (s_iushr (nat_lit 60)) := ok_iushr (md := zmd_30) zh_30 (by decide +kernel) rfl
theorem zr_30_60 : zOK zPre 30 60 (s_s1_0 (nat_lit 45067) (nat_lit 61)) := zokE (zs1_0 _ _) (ok_s10 (t := 0) (i := 0) (zrow_istore_n (k := 0) (md := zmd_30) zh_30 (by decide +kernel) rfl rfl))
theorem zr_30_61 : zOK zPre 30 61 (s_ld_0 (nat_lit 45067) (nat_lit 62)) := zokE (zld_0 _ _) (ok_ld0 (t := 0) (i := 0) (zrow_iload_n (k := 0) (md := zmd_30) zh_30 (by decide +kernel) rfl rfl))
theorem zr_30_62 : zOK zPre 30 62 (s_k (nat_lit 64) (nat_lit 63)) := ok_iconst (n := 4) (md := zmd_30) zh_30 (by decide +kernel) rfl (by decide +kernel)
theorem zr_30_63 : zOK zPre 30 63 (s_ic (nat_lit 2) zu_lt (nat_lit 73) (nat_lit 66)) := ok_ic_lt (off := 10) (md := zmd_30) zh_30 (by decide +kernel) (by decide +kernel) rfl
theorem zr_30_66 : zOK zPre 30 66 (s_inc (nat_lit 1) (nat_lit 68719476704) (nat_lit 69)) := ok_inc (n := -2) (md := zmd_30) zh_30 (by decide +kernel) rfl (by decide +kernel)
theorem zr_30_69 : zOK zPre 30 69 (s_ld_0 (nat_lit 45067) (nat_lit 70)) := zokE (zld_0 _ _) (ok_ld0 (t := 0) (i := 0) (zrow_iload_n (k := 0) (md := zmd_30) zh_30 (by decide +kernel) rfl rfl))
theorem zr_30_70 : zOK zPre 30 70 (s_k (nat_lit 32) (nat_lit 71)) := ok_iconst (n := 2) (md := zmd_30) zh_30 (by decide +kernel) rfl (by decide +kernel)
theorem zr_30_71 : zOK zPre 30 71 (s_iushr (nat_lit 72)) := ok_iushr (md := zmd_30) zh_30 (by decide +kernel) rfl
theorem zr_30_72 : zOK zPre 30 72 (s_s1_0 (nat_lit 45067) (nat_lit 73)) := zokE (zs1_0 _ _) (ok_s10 (t := 0) (i := 0) (zrow_istore_n (k := 0) (md := zmd_30) zh_30 (by decide +kernel) rfl rfl))
theorem zr_30_73 : zOK zPre 30 73 (s_ld_1 (nat_lit 45067) (nat_lit 74)) := zokE (zld_1 _ _) (ok_ld0 (t := 0) (i := 1) (zrow_iload_n (k := 1) (md := zmd_30) zh_30 (by decide +kernel) rfl rfl))
theorem zr_30_74 : zOK zPre 30 74 (s_ld_0 (nat_lit 45067) (nat_lit 75)) := zokE (zld_0 _ _) (ok_ld0 (t := 0) (i := 0) (zrow_iload_n (k := 0) (md := zmd_30) zh_30 (by decide +kernel) rfl rfl))
theorem zr_30_75 : zOK zPre 30 75 (s_k (nat_lit 16) (nat_lit 76)) := ok_iconst (n := 1) (md := zmd_30) zh_30 (by decide +kernel) rfl (by decide +kernel)
theorem zr_30_76 : zOK zPre 30 76 (s_iushr (nat_lit 77)) := ok_iushr (md := zmd_30) zh_30 (by decide +kernel) rfl
theorem zr_30_77 : zOK zPre 30 77 (s_isub (nat_lit 78)) := ok_isub (md := zmd_30) zh_30 (by decide +kernel) rfl
theorem zr_30_78 : zOK zPre 30 78 (s_ret (nat_lit 45067)) := ok_ret0 (t := 0) (i := .ireturn) (ty := .int) (md := zmd_30) zh_30 rfl (by decide +kernel) ⟨rfl, rfl⟩
theorem zr_31_0 : zOK zPre 31 0 (s_ld_0 (nat_lit 1136) (nat_lit 1)) := zokE (zld_0 _ _) (ok_ld0 (t := 4) (i := 0) (zrow_aload_n (k := 0) (md := zmd_31) zh_31 (by decide +kernel) rfl rfl))
theorem zr_31_1 : zOK zPre 31 1 (s_k (nat_lit 16) (nat_lit 2)) := ok_iconst (n := 1) (md := zmd_31) zh_31 (by decide +kernel) rfl (by decide +kernel)
theorem zr_31_2 : zOK zPre 31 2 (s_na (nat_lit 20) (nat_lit 0) (nat_lit 4)) := ok_na0 (by decide) rfl (zrow_na20 (md := zmd_31) zh_31 (by decide +kernel) rfl zw_1_83)
theorem zr_31_4 : zOK zPre 31 4 (s_dup (nat_lit 5)) := ok_dup (md := zmd_31) zh_31 (by decide +kernel) rfl
theorem zr_31_5 : zOK zPre 31 5 (s_k (nat_lit 0) (nat_lit 6)) := ok_iconst (n := 0) (md := zmd_31) zh_31 (by decide +kernel) rfl (by decide +kernel)
theorem zr_31_6 : zOK zPre 31 6 (s_ld_1 (nat_lit 45067) (nat_lit 7)) := zokE (zld_1 _ _) (ok_ld0 (t := 0) (i := 1) (zrow_iload_n (k := 1) (md := zmd_31) zh_31 (by decide +kernel) rfl rfl))
theorem zr_31_7 : zOK zPre 31 7 (s_ast (nat_lit 20) (nat_lit 0) (nat_lit 8)) := ok_astI (Or.inl rfl) (Or.inl rfl) (zrow_iastore (md := zmd_31) zh_31 (by decide +kernel) rfl)
theorem zr_31_8 : zOK zPre 31 8 (s_call (nat_lit 99) (nat_lit 32) (nat_lit 6) (nat_lit 1) (nat_lit 1) [] (nat_lit 11)) := ok_call (md := zmd_31) zh_31 zh_32 rfl (by decide) (by decide) (Or.inl rfl) zp_32 (zrow_callS (mdc := zmd_32) (index := 176) (md := zmd_31) zh_31 (by decide +kernel) rfl rfl zc_32 zw_7_74 zw_7_75 zw_1_10 zd_32) trivial
theorem zr_31_11 : zOK zPre 31 11 (s_k (nat_lit 16) (nat_lit 12)) := ok_iconst (n := 1) (md := zmd_31) zh_31 (by decide +kernel) rfl (by decide +kernel)
theorem zr_31_12 : zOK zPre 31 12 (s_call (nat_lit 10) (nat_lit 34) (nat_lit 3) (nat_lit 3) (nat_lit 1) [] (nat_lit 15)) := ok_call (md := zmd_31) zh_31 zh_34 rfl (by decide) (by decide) (Or.inr (by decide)) zp_34 (zrow_callV (mdc := zmd_34) (index := 180) (md := zmd_31) zh_31 (by decide +kernel) rfl rfl zc_34 rfl (by decide) zw_7_81 zw_7_83 zws_33 zw_1_10 zd_34) trivial
theorem zr_31_15 : zOK zPre 31 15 (s_if (nat_lit 0) zi_eq (nat_lit 22) (nat_lit 18)) := ok_if_eq (off := 7) (md := zmd_31) zh_31 (by decide +kernel) (by decide +kernel) rfl
theorem zr_31_18 : zOK zPre 31 18 (s_k (nat_lit 0) (nat_lit 19)) := ok_iconst (n := 0) (md := zmd_31) zh_31 (by decide +kernel) rfl (by decide +kernel)
theorem zr_31_19 : zOK zPre 31 19 (s_go (nat_lit 31)) := ok_go (off := 12) (md := zmd_31) zh_31 (by decide +kernel) (by decide +kernel)
theorem zr_31_22 : zOK zPre 31 22 (s_ld_0 (nat_lit 1136) (nat_lit 23)) := zokE (zld_0 _ _) (ok_ld0 (t := 4) (i := 0) (zrow_aload_n (k := 0) (md := zmd_31) zh_31 (by decide +kernel) rfl rfl))
theorem zr_31_23 : zOK zPre 31 23 (s_ld_1 (nat_lit 45067) (nat_lit 24)) := zokE (zld_1 _ _) (ok_ld0 (t := 0) (i := 1) (zrow_iload_n (k := 1) (md := zmd_31) zh_31 (by decide +kernel) rfl rfl))
theorem zr_31_24 : zOK zPre 31 24 (s_ld_2 (nat_lit 18436) (nat_lit 25)) := zokE (zld_2 _ _) (ok_ld0 (t := 1) (i := 2) (zrow_lload_n (k := 2) (md := zmd_31) zh_31 (by decide +kernel) rfl rfl))
theorem zr_31_25 : zOK zPre 31 25 (s_call (nat_lit 99) (nat_lit 20) (nat_lit 6) (nat_lit 1) (nat_lit 1) [] (nat_lit 28)) := ok_call (md := zmd_31) zh_31 zh_20 rfl (by decide) (by decide) (Or.inl rfl) zp_20 (zrow_callS (mdc := zmd_20) (index := 68) (md := zmd_31) zh_31 (by decide +kernel) rfl rfl zc_20 zw_7_22 zw_7_23 zw_1_10 zd_20) trivial
theorem zr_31_28 : zOK zPre 31 28 (s_call (nat_lit 10) (nat_lit 35) (nat_lit 3) (nat_lit 3) (nat_lit 1) [] (nat_lit 31)) := ok_call (md := zmd_31) zh_31 zh_35 rfl (by decide) (by decide) (Or.inr (by decide)) zp_35 (zrow_callV (mdc := zmd_35) (index := 184) (md := zmd_31) zh_31 (by decide +kernel) rfl rfl zc_35 rfl (by decide) zw_7_85 zw_7_87 zws_34 zw_1_10 zd_35) trivial
theorem zr_31_31 : zOK zPre 31 31 (s_ret (nat_lit 45067)) := ok_ret0 (t := 0) (i := .ireturn) (ty := .int) (md := zmd_31) zh_31 rfl (by decide +kernel) ⟨rfl, rfl⟩
theorem zr_32_0 : zOK zPre 32 0 (s_k (nat_lit 16) (nat_lit 1)) := ok_iconst (n := 1) (md := zmd_32) zh_32 (by decide +kernel) rfl (by decide +kernel)
theorem zr_32_1 : zOK zPre 32 1 (s_s1_1 (nat_lit 45067) (nat_lit 2)) := zokE (zs1_1 _ _) (ok_s10 (t := 0) (i := 1) (zrow_istore_n (k := 1) (md := zmd_32) zh_32 (by decide +kernel) rfl rfl))
theorem zr_32_2 : zOK zPre 32 2 (s_ld_0 (nat_lit 1136) (nat_lit 3)) := zokE (zld_0 _ _) (ok_ld0 (t := 4) (i := 0) (zrow_aload_n (k := 0) (md := zmd_32) zh_32 (by decide +kernel) rfl rfl))
theorem zr_32_3 : zOK zPre 32 3 (s_s1_2 (nat_lit 1136) (nat_lit 4)) := zokE (zs1_2 _ _) (ok_s10 (t := 4) (i := 2) (zrow_astore_n (k := 2) (md := zmd_32) zh_32 (by decide +kernel) rfl rfl))
theorem zr_32_4 : zOK zPre 32 4 (s_ld_2 (nat_lit 1136) (nat_lit 5)) := zokE (zld_2 _ _) (ok_ld0 (t := 4) (i := 2) (zrow_aload_n (k := 2) (md := zmd_32) zh_32 (by decide +kernel) rfl rfl))
theorem zr_32_5 : zOK zPre 32 5 (s_al (nat_lit 6)) := ok_al (md := zmd_32) zh_32 (by decide +kernel) rfl
theorem zr_32_6 : zOK zPre 32 6 (s_s1_3 (nat_lit 45067) (nat_lit 7)) := zokE (zs1_3 _ _) (ok_s10 (t := 0) (i := 3) (zrow_istore_n (k := 3) (md := zmd_32) zh_32 (by decide +kernel) rfl rfl))
theorem zr_32_7 : zOK zPre 32 7 (s_k (nat_lit 0) (nat_lit 8)) := ok_iconst (n := 0) (md := zmd_32) zh_32 (by decide +kernel) rfl (by decide +kernel)
theorem zr_32_8 : zOK zPre 32 8 (s_s1_4 (nat_lit 45067) (nat_lit 10)) := zokE (zs1_4 _ _) (ok_s10 (t := 0) (i := 4) (zrow_istore (md := zmd_32) zh_32 (by decide +kernel) rfl))
theorem zr_32_10 : zOK zPre 32 10 (s_ld_4 (nat_lit 45067) (nat_lit 12)) := zokE (zld_4 _ _) (ok_ld0 (t := 0) (i := 4) (zrow_iload (md := zmd_32) zh_32 (by decide +kernel) rfl))
theorem zr_32_12 : zOK zPre 32 12 (s_ld_3 (nat_lit 45067) (nat_lit 13)) := zokE (zld_3 _ _) (ok_ld0 (t := 0) (i := 3) (zrow_iload_n (k := 3) (md := zmd_32) zh_32 (by decide +kernel) rfl rfl))
theorem zr_32_13 : zOK zPre 32 13 (s_ic (nat_lit 3) zu_ge (nat_lit 41) (nat_lit 16)) := ok_ic_ge (off := 28) (md := zmd_32) zh_32 (by decide +kernel) (by decide +kernel) rfl
theorem zr_32_16 : zOK zPre 32 16 (s_ld_2 (nat_lit 1136) (nat_lit 17)) := zokE (zld_2 _ _) (ok_ld0 (t := 4) (i := 2) (zrow_aload_n (k := 2) (md := zmd_32) zh_32 (by decide +kernel) rfl rfl))
theorem zr_32_17 : zOK zPre 32 17 (s_ld_4 (nat_lit 45067) (nat_lit 19)) := zokE (zld_4 _ _) (ok_ld0 (t := 0) (i := 4) (zrow_iload (md := zmd_32) zh_32 (by decide +kernel) rfl))
theorem zr_32_19 : zOK zPre 32 19 (s_ald (nat_lit 20) (nat_lit 20) (nat_lit 20)) := ok_ald0 (by decide) (by decide) (by decide) (zrow_iaload (md := zmd_32) zh_32 (by decide +kernel) rfl)
theorem zr_32_20 : zOK zPre 32 20 (s_s1_5 (nat_lit 45067) (nat_lit 22)) := zokE (zs1_5 _ _) (ok_s10 (t := 0) (i := 5) (zrow_istore (md := zmd_32) zh_32 (by decide +kernel) rfl))
theorem zr_32_22 : zOK zPre 32 22 (s_ld_1 (nat_lit 45067) (nat_lit 23)) := zokE (zld_1 _ _) (ok_ld0 (t := 0) (i := 1) (zrow_iload_n (k := 1) (md := zmd_32) zh_32 (by decide +kernel) rfl rfl))
theorem zr_32_23 : zOK zPre 32 23 (s_ld_5 (nat_lit 45067) (nat_lit 25)) := zokE (zld_5 _ _) (ok_ld0 (t := 0) (i := 5) (zrow_iload (md := zmd_32) zh_32 (by decide +kernel) rfl))
theorem zr_32_25 : zOK zPre 32 25 (s_i2l (nat_lit 26)) := ok_i2l (md := zmd_32) zh_32 (by decide +kernel) rfl
theorem zr_32_26 : zOK zPre 32 26 (s_k (nat_lit 2) (nat_lit 27)) := ok_lconst (n := 0) (md := zmd_32) zh_32 (by decide +kernel) rfl (by decide +kernel)
theorem zr_32_27 : zOK zPre 32 27 (s_k (nat_lit 114) (nat_lit 30)) := ok_ldc2 (i := 170) (n := (7 : Int64)) (md := zmd_32) zh_32 (by decide +kernel) rfl zw_7_77 (by decide +kernel)
theorem zr_32_30 : zOK zPre 32 30 (s_call (nat_lit 99) (nat_lit 33) (nat_lit 6) (nat_lit 3) (nat_lit 1) [] (nat_lit 33)) := ok_call (md := zmd_32) zh_32 zh_33 rfl (by decide) (by decide) (Or.inl rfl) zp_33 (zrow_callS (mdc := zmd_33) (index := 172) (md := zmd_32) zh_32 (by decide +kernel) rfl rfl zc_33 zw_7_78 zw_7_79 zw_1_10 zd_33) trivial
theorem zr_32_33 : zOK zPre 32 33 (s_iand (nat_lit 34)) := ok_iand (md := zmd_32) zh_32 (by decide +kernel) rfl
theorem zr_32_34 : zOK zPre 32 34 (s_s1_1 (nat_lit 45067) (nat_lit 35)) := zokE (zs1_1 _ _) (ok_s10 (t := 0) (i := 1) (zrow_istore_n (k := 1) (md := zmd_32) zh_32 (by decide +kernel) rfl rfl))
theorem zr_32_35 : zOK zPre 32 35 (s_inc (nat_lit 4) (nat_lit 16) (nat_lit 38)) := ok_inc (n := 1) (md := zmd_32) zh_32 (by decide +kernel) rfl (by decide +kernel)
theorem zr_32_38 : zOK zPre 32 38 (s_go (nat_lit 10)) := ok_go (off := -28) (md := zmd_32) zh_32 (by decide +kernel) (by decide +kernel)
theorem zr_32_41 : zOK zPre 32 41 (s_ld_1 (nat_lit 45067) (nat_lit 42)) := zokE (zld_1 _ _) (ok_ld0 (t := 0) (i := 1) (zrow_iload_n (k := 1) (md := zmd_32) zh_32 (by decide +kernel) rfl rfl))
theorem zr_32_42 : zOK zPre 32 42 (s_rz (nat_lit 1)) := ok_rz (ft := 1) (Or.inl rfl) (md := zmd_32) zh_32 rfl (by decide +kernel)
theorem zr_33_0 : zOK zPre 33 0 (s_ld_0 (nat_lit 18436) (nat_lit 1)) := zokE (zld_0 _ _) (ok_ld0 (t := 1) (i := 0) (zrow_lload_n (k := 0) (md := zmd_33) zh_33 (by decide +kernel) rfl rfl))
theorem zr_33_1 : zOK zPre 33 1 (s_ld_2 (nat_lit 18436) (nat_lit 2)) := zokE (zld_2 _ _) (ok_ld0 (t := 1) (i := 2) (zrow_lload_n (k := 2) (md := zmd_33) zh_33 (by decide +kernel) rfl rfl))
theorem zr_33_2 : zOK zPre 33 2 (s_lcmp (nat_lit 3)) := ok_lcmp (md := zmd_33) zh_33 (by decide +kernel) rfl
theorem zr_33_3 : zOK zPre 33 3 (s_if (nat_lit 2) zi_lt (nat_lit 17) (nat_lit 6)) := ok_if_lt (off := 14) (md := zmd_33) zh_33 (by decide +kernel) (by decide +kernel) rfl
theorem zr_33_6 : zOK zPre 33 6 (s_ld_0 (nat_lit 18436) (nat_lit 7)) := zokE (zld_0 _ _) (ok_ld0 (t := 1) (i := 0) (zrow_lload_n (k := 0) (md := zmd_33) zh_33 (by decide +kernel) rfl rfl))
theorem zr_33_7 : zOK zPre 33 7 (s_ld_4 (nat_lit 18436) (nat_lit 9)) := zokE (zld_4 _ _) (ok_ld0 (t := 1) (i := 4) (zrow_lload (md := zmd_33) zh_33 (by decide +kernel) rfl))
theorem zr_33_9 : zOK zPre 33 9 (s_lcmp (nat_lit 10)) := ok_lcmp (md := zmd_33) zh_33 (by decide +kernel) rfl
theorem zr_33_10 : zOK zPre 33 10 (s_if (nat_lit 4) zi_gt (nat_lit 17) (nat_lit 13)) := ok_if_gt (off := 7) (md := zmd_33) zh_33 (by decide +kernel) (by decide +kernel) rfl
theorem zr_33_13 : zOK zPre 33 13 (s_k (nat_lit 16) (nat_lit 14)) := ok_iconst (n := 1) (md := zmd_33) zh_33 (by decide +kernel) rfl (by decide +kernel)
theorem zr_33_14 : zOK zPre 33 14 (s_go (nat_lit 18)) := ok_go (off := 4) (md := zmd_33) zh_33 (by decide +kernel) (by decide +kernel)
theorem zr_33_17 : zOK zPre 33 17 (s_k (nat_lit 0) (nat_lit 18)) := ok_iconst (n := 0) (md := zmd_33) zh_33 (by decide +kernel) rfl (by decide +kernel)
theorem zr_33_18 : zOK zPre 33 18 (s_rz (nat_lit 1)) := ok_rz (ft := 1) (Or.inl rfl) (md := zmd_33) zh_33 rfl (by decide +kernel)
theorem zr_34_0 : zOK zPre 34 0 (s_ld_0 (nat_lit 1136) (nat_lit 1)) := zokE (zld_0 _ _) (ok_ld0 (t := 4) (i := 0) (zrow_aload_n (k := 0) (md := zmd_34) zh_34 (by decide +kernel) rfl rfl))
theorem zr_34_1 : zOK zPre 34 1 (s_ld_1 (nat_lit 45067) (nat_lit 2)) := zokE (zld_1 _ _) (ok_ld0 (t := 0) (i := 1) (zrow_iload_n (k := 1) (md := zmd_34) zh_34 (by decide +kernel) rfl rfl))
theorem zr_34_2 : zOK zPre 34 2 (s_if (nat_lit 0) zi_eq (nat_lit 9) (nat_lit 5)) := ok_if_eq (off := 7) (md := zmd_34) zh_34 (by decide +kernel) (by decide +kernel) rfl
theorem zr_34_5 : zOK zPre 34 5 (s_k (nat_lit 0) (nat_lit 6)) := ok_iconst (n := 0) (md := zmd_34) zh_34 (by decide +kernel) rfl (by decide +kernel)
theorem zr_34_6 : zOK zPre 34 6 (s_go (nat_lit 10)) := ok_go (off := 4) (md := zmd_34) zh_34 (by decide +kernel) (by decide +kernel)
theorem zr_34_9 : zOK zPre 34 9 (s_ld_2 (nat_lit 45067) (nat_lit 10)) := zokE (zld_2 _ _) (ok_ld0 (t := 0) (i := 2) (zrow_iload_n (k := 2) (md := zmd_34) zh_34 (by decide +kernel) rfl rfl))
theorem zr_34_10 : zOK zPre 34 10 (s_pf (nat_lit 10) (nat_lit 5) (nat_lit 0) (nat_lit 13)) := ok_pf0 (by decide) (zrow_pf (ty := .int) (index := 167) (ref := "ResidueworksModel") (C := RX11) (T := TX11) (N := 6) (ty0 := tyX11) (md := zmd_34) zh_34 (by decide +kernel) rfl rfl (by decide) zu_X11 tyX11_ok nmX11 zw_7_52 rfl rfl (by decide +kernel) zfty0)
theorem zr_34_13 : zOK zPre 34 13 (s_ld_1 (nat_lit 45067) (nat_lit 14)) := zokE (zld_1 _ _) (ok_ld0 (t := 0) (i := 1) (zrow_iload_n (k := 1) (md := zmd_34) zh_34 (by decide +kernel) rfl rfl))
theorem zr_34_14 : zOK zPre 34 14 (s_if (nat_lit 1) zi_ne (nat_lit 21) (nat_lit 17)) := ok_if_ne (off := 7) (md := zmd_34) zh_34 (by decide +kernel) (by decide +kernel) rfl
theorem zr_34_17 : zOK zPre 34 17 (s_k (nat_lit 16) (nat_lit 18)) := ok_iconst (n := 1) (md := zmd_34) zh_34 (by decide +kernel) rfl (by decide +kernel)
theorem zr_34_18 : zOK zPre 34 18 (s_go (nat_lit 22)) := ok_go (off := 4) (md := zmd_34) zh_34 (by decide +kernel) (by decide +kernel)
theorem zr_34_21 : zOK zPre 34 21 (s_k (nat_lit 0) (nat_lit 22)) := ok_iconst (n := 0) (md := zmd_34) zh_34 (by decide +kernel) rfl (by decide +kernel)
theorem zr_34_22 : zOK zPre 34 22 (s_rz (nat_lit 1)) := ok_rz (ft := 1) (Or.inl rfl) (md := zmd_34) zh_34 rfl (by decide +kernel)
theorem zr_35_0 : zOK zPre 35 0 (s_ld_0 (nat_lit 1136) (nat_lit 1)) := zokE (zld_0 _ _) (ok_ld0 (t := 4) (i := 0) (zrow_aload_n (k := 0) (md := zmd_35) zh_35 (by decide +kernel) rfl rfl))
theorem zr_35_1 : zOK zPre 35 1 (s_gf (nat_lit 10) (nat_lit 0) (nat_lit 4)) := ok_gf0 (by decide) (zrow_gf (index := 144) (ref := "ResidueworksModel") (C := RX11) (T := TX11) (N := 6) (md := zmd_35) zh_35 (by decide +kernel) rfl rfl (by decide) zu_X11 zw_7_47 rfl)
theorem zr_35_4 : zOK zPre 35 4 (s_ld_1 (nat_lit 45067) (nat_lit 5)) := zokE (zld_1 _ _) (ok_ld0 (t := 0) (i := 1) (zrow_iload_n (k := 1) (md := zmd_35) zh_35 (by decide +kernel) rfl rfl))
theorem zr_35_5 : zOK zPre 35 5 (s_ld_2 (nat_lit 1136) (nat_lit 6)) := zokE (zld_2 _ _) (ok_ld0 (t := 4) (i := 2) (zrow_aload_n (k := 2) (md := zmd_35) zh_35 (by decide +kernel) rfl rfl))
theorem zr_35_6 : zOK zPre 35 6 (s_aas (nat_lit 28) (nat_lit 9) (nat_lit 7)) := ok_aas0 (by decide) (Or.inl (by decide)) (zrow_aa1 (by decide) (by decide) (md := zmd_35) zh_35 (by decide +kernel) rfl rfl rfl)
theorem zr_35_7 : zOK zPre 35 7 (s_ld_2 (nat_lit 1136) (nat_lit 8)) := zokE (zld_2 _ _) (ok_ld0 (t := 4) (i := 2) (zrow_aload_n (k := 2) (md := zmd_35) zh_35 (by decide +kernel) rfl rfl))
theorem zr_35_8 : zOK zPre 35 8 (s_call (nat_lit 9) (nat_lit 36) (nat_lit 1) (nat_lit 1) (nat_lit 1) [] (nat_lit 11)) := ok_call (md := zmd_35) zh_35 zh_36 rfl (by decide) (by decide) (Or.inr (by decide)) zp_36 (zrow_callVN (mdc := zmd_36) (index := 124) (md := zmd_35) zh_35 (by decide +kernel) rfl rfl zc_36 rfl (by decide) zw_7_89 zw_7_91 zws_35 zw_1_19 zd_36) trivial
theorem zr_35_11 : zOK zPre 35 11 (s_ret (nat_lit 45067)) := ok_ret0 (t := 0) (i := .ireturn) (ty := .int) (md := zmd_35) zh_35 rfl (by decide +kernel) ⟨rfl, rfl⟩
theorem zr_36_0 : zOK zPre 36 0 (s_ld_0 (nat_lit 1136) (nat_lit 1)) := zokE (zld_0 _ _) (ok_ld0 (t := 4) (i := 0) (zrow_aload_n (k := 0) (md := zmd_36) zh_36 (by decide +kernel) rfl rfl))
theorem zr_36_1 : zOK zPre 36 1 (s_call (nat_lit 9) (nat_lit 37) (nat_lit 1) (nat_lit 1) (nat_lit 1) [] (nat_lit 4)) := ok_call (md := zmd_36) zh_36 zh_37 rfl (by decide) (by decide) (Or.inr (by decide)) zp_37 (zrow_callV (mdc := zmd_37) (index := 56) (md := zmd_36) zh_36 (by decide +kernel) rfl rfl zc_37 rfl (by decide) zw_7_93 zw_7_95 zws_36 zw_1_19 zd_37) trivial
theorem zr_36_4 : zOK zPre 36 4 (s_call (nat_lit 99) (nat_lit 38) (nat_lit 1) (nat_lit 1) (nat_lit 1) [] (nat_lit 7)) := ok_call (md := zmd_36) zh_36 zh_38 rfl (by decide) (by decide) (Or.inl rfl) zp_38 (zrow_callSN (mdc := zmd_38) (index := 60) (md := zmd_36) zh_36 (by decide +kernel) rfl rfl zc_38 zw_7_101 zw_7_102 zw_1_10 zd_38) trivial
theorem zr_36_7 : zOK zPre 36 7 (s_ret (nat_lit 45067)) := ok_ret0 (t := 0) (i := .ireturn) (ty := .int) (md := zmd_36) zh_36 rfl (by decide +kernel) ⟨rfl, rfl⟩
theorem zr_37_0 : zOK zPre 37 0 (s_ld_0 (nat_lit 1136) (nat_lit 1)) := zokE (zld_0 _ _) (ok_ld0 (t := 4) (i := 0) (zrow_aload_n (k := 0) (md := zmd_37) zh_37 (by decide +kernel) rfl rfl))
theorem zr_37_1 : zOK zPre 37 1 (s_gf (nat_lit 9) (nat_lit 0) (nat_lit 4)) := ok_gf0 (by decide) (zrow_gf (index := 7) (ref := "ResidueworksModel$Whole") (C := RX10) (T := TX10) (N := 2) (md := zmd_37) zh_37 (by decide +kernel) rfl rfl (by decide) zu_X10 zw_7_38 rfl)
theorem zr_37_4 : zOK zPre 37 4 (s_if (nat_lit 3) zi_ge (nat_lit 24) (nat_lit 7)) := ok_if_ge (off := 20) (md := zmd_37) zh_37 (by decide +kernel) (by decide +kernel) rfl
theorem zr_37_7 : zOK zPre 37 7 (s_ld_0 (nat_lit 1136) (nat_lit 8)) := zokE (zld_0 _ _) (ok_ld0 (t := 4) (i := 0) (zrow_aload_n (k := 0) (md := zmd_37) zh_37 (by decide +kernel) rfl rfl))
theorem zr_37_8 : zOK zPre 37 8 (s_gf (nat_lit 9) (nat_lit 1) (nat_lit 11)) := ok_gf0 (by decide) (zrow_gf (index := 13) (ref := "ResidueworksModel$Whole") (C := RX10) (T := TX10) (N := 2) (md := zmd_37) zh_37 (by decide +kernel) rfl rfl (by decide) zu_X10 zw_7_40 rfl)
theorem zr_37_11 : zOK zPre 37 11 (s_k (nat_lit 16) (nat_lit 12)) := ok_iconst (n := 1) (md := zmd_37) zh_37 (by decide +kernel) rfl (by decide +kernel)
theorem zr_37_12 : zOK zPre 37 12 (s_na (nat_lit 20) (nat_lit 0) (nat_lit 14)) := ok_na0 (by decide) rfl (zrow_na20 (md := zmd_37) zh_37 (by decide +kernel) rfl zw_1_83)
theorem zr_37_14 : zOK zPre 37 14 (s_dup (nat_lit 15)) := ok_dup (md := zmd_37) zh_37 (by decide +kernel) rfl
theorem zr_37_15 : zOK zPre 37 15 (s_k (nat_lit 0) (nat_lit 16)) := ok_iconst (n := 0) (md := zmd_37) zh_37 (by decide +kernel) rfl (by decide +kernel)
theorem zr_37_16 : zOK zPre 37 16 (s_k (nat_lit 16) (nat_lit 17)) := ok_iconst (n := 1) (md := zmd_37) zh_37 (by decide +kernel) rfl (by decide +kernel)
theorem zr_37_17 : zOK zPre 37 17 (s_ast (nat_lit 20) (nat_lit 0) (nat_lit 18)) := ok_astI (Or.inl rfl) (Or.inl rfl) (zrow_iastore (md := zmd_37) zh_37 (by decide +kernel) rfl)
theorem zr_37_18 : zOK zPre 37 18 (s_call (nat_lit 99) (nat_lit 42) (nat_lit 6) (nat_lit 2) (nat_lit 1) [] (nat_lit 21)) := ok_call (md := zmd_37) zh_37 zh_42 rfl (by decide) (by decide) (Or.inl rfl) zp_42 (zrow_callSN (mdc := zmd_42) (index := 30) (md := zmd_37) zh_37 (by decide +kernel) rfl rfl zc_42 zw_7_97 zw_7_98 zw_1_10 zd_42) trivial
theorem zr_37_21 : zOK zPre 37 21 (s_go (nat_lit 28)) := ok_go (off := 7) (md := zmd_37) zh_37 (by decide +kernel) (by decide +kernel)
theorem zr_37_24 : zOK zPre 37 24 (s_ld_0 (nat_lit 1136) (nat_lit 25)) := zokE (zld_0 _ _) (ok_ld0 (t := 4) (i := 0) (zrow_aload_n (k := 0) (md := zmd_37) zh_37 (by decide +kernel) rfl rfl))
theorem zr_37_25 : zOK zPre 37 25 (s_gf (nat_lit 9) (nat_lit 1) (nat_lit 28)) := ok_gf0 (by decide) (zrow_gf (index := 13) (ref := "ResidueworksModel$Whole") (C := RX10) (T := TX10) (N := 2) (md := zmd_37) zh_37 (by decide +kernel) rfl rfl (by decide) zu_X10 zw_7_40 rfl)
theorem zr_37_28 : zOK zPre 37 28 (s_ret (nat_lit 1136)) := ok_ret0 (t := 4) (i := .areturn) (md := zmd_37) zh_37 rfl (by decide +kernel) ⟨Or.inr ⟨_, rfl⟩, rfl⟩
theorem zr_38_0 : zOK zPre 38 0 (s_ld_0 (nat_lit 1136) (nat_lit 1)) := zokE (zld_0 _ _) (ok_ld0 (t := 4) (i := 0) (zrow_aload_n (k := 0) (md := zmd_38) zh_38 (by decide +kernel) rfl rfl))
theorem zr_38_1 : zOK zPre 38 1 (s_al (nat_lit 2)) := ok_al (md := zmd_38) zh_38 (by decide +kernel) rfl
theorem zr_38_2 : zOK zPre 38 2 (s_if (nat_lit 1) zi_ne (nat_lit 9) (nat_lit 5)) := ok_if_ne (off := 7) (md := zmd_38) zh_38 (by decide +kernel) (by decide +kernel) rfl
theorem zr_38_5 : zOK zPre 38 5 (s_k (nat_lit 0) (nat_lit 6)) := ok_iconst (n := 0) (md := zmd_38) zh_38 (by decide +kernel) rfl (by decide +kernel)
theorem zr_38_6 : zOK zPre 38 6 (s_go (nat_lit 30)) := ok_go (off := 24) (md := zmd_38) zh_38 (by decide +kernel) (by decide +kernel)
theorem zr_38_9 : zOK zPre 38 9 (s_k (nat_lit 256) (nat_lit 11)) := ok_bipush (n := 16) (md := zmd_38) zh_38 (by decide +kernel) rfl (by decide +kernel)
theorem zr_38_11 : zOK zPre 38 11 (s_ld_0 (nat_lit 1136) (nat_lit 12)) := zokE (zld_0 _ _) (ok_ld0 (t := 4) (i := 0) (zrow_aload_n (k := 0) (md := zmd_38) zh_38 (by decide +kernel) rfl rfl))
theorem zr_38_12 : zOK zPre 38 12 (s_al (nat_lit 13)) := ok_al (md := zmd_38) zh_38 (by decide +kernel) rfl
theorem zr_38_13 : zOK zPre 38 13 (s_imul (nat_lit 14)) := ok_imul (md := zmd_38) zh_38 (by decide +kernel) rfl
theorem zr_38_14 : zOK zPre 38 14 (s_k (nat_lit 256) (nat_lit 16)) := ok_bipush (n := 16) (md := zmd_38) zh_38 (by decide +kernel) rfl (by decide +kernel)
theorem zr_38_16 : zOK zPre 38 16 (s_isub (nat_lit 17)) := ok_isub (md := zmd_38) zh_38 (by decide +kernel) rfl
theorem zr_38_17 : zOK zPre 38 17 (s_k (nat_lit 512) (nat_lit 19)) := ok_bipush (n := 32) (md := zmd_38) zh_38 (by decide +kernel) rfl (by decide +kernel)
theorem zr_38_19 : zOK zPre 38 19 (s_iadd (nat_lit 20)) := ok_iadd (md := zmd_38) zh_38 (by decide +kernel) rfl
theorem zr_38_20 : zOK zPre 38 20 (s_ld_0 (nat_lit 1136) (nat_lit 21)) := zokE (zld_0 _ _) (ok_ld0 (t := 4) (i := 0) (zrow_aload_n (k := 0) (md := zmd_38) zh_38 (by decide +kernel) rfl rfl))
theorem zr_38_21 : zOK zPre 38 21 (s_ld_0 (nat_lit 1136) (nat_lit 22)) := zokE (zld_0 _ _) (ok_ld0 (t := 4) (i := 0) (zrow_aload_n (k := 0) (md := zmd_38) zh_38 (by decide +kernel) rfl rfl))
theorem zr_38_22 : zOK zPre 38 22 (s_al (nat_lit 23)) := ok_al (md := zmd_38) zh_38 (by decide +kernel) rfl
theorem zr_38_23 : zOK zPre 38 23 (s_k (nat_lit 16) (nat_lit 24)) := ok_iconst (n := 1) (md := zmd_38) zh_38 (by decide +kernel) rfl (by decide +kernel)
theorem zr_38_24 : zOK zPre 38 24 (s_isub (nat_lit 25)) := ok_isub (md := zmd_38) zh_38 (by decide +kernel) rfl
theorem zr_38_25 : zOK zPre 38 25 (s_ald (nat_lit 20) (nat_lit 20) (nat_lit 26)) := ok_ald0 (by decide) (by decide) (by decide) (zrow_iaload (md := zmd_38) zh_38 (by decide +kernel) rfl)
theorem zr_38_26 : zOK zPre 38 26 (s_call (nat_lit 99) (nat_lit 30) (nat_lit 2) (nat_lit 1) (nat_lit 1) [] (nat_lit 29)) := ok_call (md := zmd_38) zh_38 zh_30 rfl (by decide) (by decide) (Or.inl rfl) zp_30 (zrow_callS (mdc := zmd_30) (index := 22) (md := zmd_38) zh_38 (by decide +kernel) rfl rfl zc_30 zw_7_104 zw_2_185 zw_1_27 zd_30) trivial
theorem zr_38_29 : zOK zPre 38 29 (s_isub (nat_lit 30)) := ok_isub (md := zmd_38) zh_38 (by decide +kernel) rfl
theorem zr_38_30 : zOK zPre 38 30 (s_ret (nat_lit 45067)) := ok_ret0 (t := 0) (i := .ireturn) (ty := .int) (md := zmd_38) zh_38 rfl (by decide +kernel) ⟨rfl, rfl⟩
theorem zr_39_0 : zOK zPre 39 0 (s_ld_0 (nat_lit 1136) (nat_lit 1)) := zokE (zld_0 _ _) (ok_ld0 (t := 4) (i := 0) (zrow_aload_n (k := 0) (md := zmd_39) zh_39 (by decide +kernel) rfl rfl))
theorem zr_39_1 : zOK zPre 39 1 (s_gf (nat_lit 10) (nat_lit 5) (nat_lit 4)) := ok_gf0 (by decide) (zrow_gf (index := 167) (ref := "ResidueworksModel") (C := RX11) (T := TX11) (N := 6) (md := zmd_39) zh_39 (by decide +kernel) rfl rfl (by decide) zu_X11 zw_7_52 rfl)
theorem zr_39_4 : zOK zPre 39 4 (s_ret (nat_lit 45067)) := ok_ret0 (t := 0) (i := .ireturn) (ty := .int) (md := zmd_39) zh_39 rfl (by decide +kernel) ⟨rfl, rfl⟩
theorem zr_40_0 : zOK zPre 40 0 (s_k (nat_lit 0) (nat_lit 1)) := ok_iconst (n := 0) (md := zmd_40) zh_40 (by decide +kernel) rfl (by decide +kernel)
theorem zr_40_1 : zOK zPre 40 1 (s_s1_1 (nat_lit 45067) (nat_lit 2)) := zokE (zs1_1 _ _) (ok_s10 (t := 0) (i := 1) (zrow_istore_n (k := 1) (md := zmd_40) zh_40 (by decide +kernel) rfl rfl))
theorem zr_40_2 : zOK zPre 40 2 (s_ld_1 (nat_lit 45067) (nat_lit 3)) := zokE (zld_1 _ _) (ok_ld0 (t := 0) (i := 1) (zrow_iload_n (k := 1) (md := zmd_40) zh_40 (by decide +kernel) rfl rfl))
theorem zr_40_3 : zOK zPre 40 3 (s_ld_0 (nat_lit 1136) (nat_lit 4)) := zokE (zld_0 _ _) (ok_ld0 (t := 4) (i := 0) (zrow_aload_n (k := 0) (md := zmd_40) zh_40 (by decide +kernel) rfl rfl))
theorem zr_40_4 : zOK zPre 40 4 (s_gf (nat_lit 7) (nat_lit 1) (nat_lit 7)) := ok_gf0 (by decide) (zrow_gf (index := 13) (ref := "Residueworks$Whole") (C := RX8) (T := TX8) (N := 3) (md := zmd_40) zh_40 (by decide +kernel) rfl rfl (by decide) zu_X8 zw_1_66 rfl)
theorem zr_40_7 : zOK zPre 40 7 (s_ic (nat_lit 3) zu_ge (nat_lit 38) (nat_lit 10)) := ok_ic_ge (off := 31) (md := zmd_40) zh_40 (by decide +kernel) (by decide +kernel) rfl
theorem zr_40_10 : zOK zPre 40 10 (s_ld_0 (nat_lit 1136) (nat_lit 11)) := zokE (zld_0 _ _) (ok_ld0 (t := 4) (i := 0) (zrow_aload_n (k := 0) (md := zmd_40) zh_40 (by decide +kernel) rfl rfl))
theorem zr_40_11 : zOK zPre 40 11 (s_ld_1 (nat_lit 45067) (nat_lit 12)) := zokE (zld_1 _ _) (ok_ld0 (t := 0) (i := 1) (zrow_iload_n (k := 1) (md := zmd_40) zh_40 (by decide +kernel) rfl rfl))
theorem zr_40_12 : zOK zPre 40 12 (s_call (nat_lit 7) (nat_lit 29) (nat_lit 2) (nat_lit 2) (nat_lit 1) [] (nat_lit 15)) := ok_call (md := zmd_40) zh_40 zh_29 rfl (by decide) (by decide) (Or.inr (by decide)) zp_29 (zrow_callV (mdc := zmd_29) (index := 49) (md := zmd_40) zh_40 (by decide +kernel) rfl rfl zc_29 rfl (by decide) zw_2_180 zw_2_181 zw_2_182 zw_1_3 zd_29) trivial
theorem zr_40_15 : zOK zPre 40 15 (s_if (nat_lit 0) zi_eq (nat_lit 32) (nat_lit 18)) := ok_if_eq (off := 17) (md := zmd_40) zh_40 (by decide +kernel) (by decide +kernel) rfl
theorem zr_40_18 : zOK zPre 40 18 (s_ld_1 (nat_lit 45067) (nat_lit 19)) := zokE (zld_1 _ _) (ok_ld0 (t := 0) (i := 1) (zrow_iload_n (k := 1) (md := zmd_40) zh_40 (by decide +kernel) rfl rfl))
theorem zr_40_19 : zOK zPre 40 19 (s_k (nat_lit 480) (nat_lit 21)) := ok_bipush (n := 30) (md := zmd_40) zh_40 (by decide +kernel) rfl (by decide +kernel)
theorem zr_40_21 : zOK zPre 40 21 (s_imul (nat_lit 22)) := ok_imul (md := zmd_40) zh_40 (by decide +kernel) rfl
theorem zr_40_22 : zOK zPre 40 22 (s_ld_0 (nat_lit 1136) (nat_lit 23)) := zokE (zld_0 _ _) (ok_ld0 (t := 4) (i := 0) (zrow_aload_n (k := 0) (md := zmd_40) zh_40 (by decide +kernel) rfl rfl))
theorem zr_40_23 : zOK zPre 40 23 (s_ld_1 (nat_lit 45067) (nat_lit 24)) := zokE (zld_1 _ _) (ok_ld0 (t := 0) (i := 1) (zrow_iload_n (k := 1) (md := zmd_40) zh_40 (by decide +kernel) rfl rfl))
theorem zr_40_24 : zOK zPre 40 24 (s_call (nat_lit 7) (nat_lit 29) (nat_lit 2) (nat_lit 2) (nat_lit 1) [] (nat_lit 27)) := ok_call (md := zmd_40) zh_40 zh_29 rfl (by decide) (by decide) (Or.inr (by decide)) zp_29 (zrow_callV (mdc := zmd_29) (index := 49) (md := zmd_40) zh_40 (by decide +kernel) rfl rfl zc_29 rfl (by decide) zw_2_180 zw_2_181 zw_2_182 zw_1_3 zd_29) trivial
theorem zr_40_27 : zOK zPre 40 27 (s_call (nat_lit 99) (nat_lit 41) (nat_lit 2) (nat_lit 1) (nat_lit 1) [] (nat_lit 30)) := ok_call (md := zmd_40) zh_40 zh_41 rfl (by decide) (by decide) (Or.inl rfl) zp_41 (zrow_callS (mdc := zmd_41) (index := 69) (md := zmd_40) zh_40 (by decide +kernel) rfl rfl zc_41 zw_2_192 zw_2_193 zw_1_27 zd_41) trivial
theorem zr_40_30 : zOK zPre 40 30 (s_iadd (nat_lit 31)) := ok_iadd (md := zmd_40) zh_40 (by decide +kernel) rfl
theorem zr_40_31 : zOK zPre 40 31 (s_ret (nat_lit 45067)) := ok_ret0 (t := 0) (i := .ireturn) (ty := .int) (md := zmd_40) zh_40 rfl (by decide +kernel) ⟨rfl, rfl⟩
theorem zr_40_32 : zOK zPre 40 32 (s_inc (nat_lit 1) (nat_lit 16) (nat_lit 35)) := ok_inc (n := 1) (md := zmd_40) zh_40 (by decide +kernel) rfl (by decide +kernel)
theorem zr_40_35 : zOK zPre 40 35 (s_go (nat_lit 2)) := ok_go (off := -33) (md := zmd_40) zh_40 (by decide +kernel) (by decide +kernel)
theorem zr_40_38 : zOK zPre 40 38 (s_k (nat_lit 68719476720) (nat_lit 39)) := ok_iconst (n := -1) (md := zmd_40) zh_40 (by decide +kernel) rfl (by decide +kernel)
theorem zr_40_39 : zOK zPre 40 39 (s_ret (nat_lit 45067)) := ok_ret0 (t := 0) (i := .ireturn) (ty := .int) (md := zmd_40) zh_40 rfl (by decide +kernel) ⟨rfl, rfl⟩
theorem zr_41_0 : zOK zPre 41 0 (s_ntz (nat_lit 7)) := ok_ntz (md := zmd_41) zh_41 (by decide +kernel) (by decide +kernel) (by decide +kernel) (by decide +kernel) (by decide +kernel) (by decide +kernel) (by decide +kernel)
theorem zr_41_1 : zOK zPre 41 1 (s_k (nat_lit 68719476720) (nat_lit 2)) := ok_iconst (n := -1) (md := zmd_41) zh_41 (by decide +kernel) rfl (by decide +kernel)
theorem zr_41_2 : zOK zPre 41 2 (s_ixor (nat_lit 3)) := ok_ixor (md := zmd_41) zh_41 (by decide +kernel) rfl
theorem zr_41_3 : zOK zPre 41 3 (s_ld_0 (nat_lit 45067) (nat_lit 4)) := zokE (zld_0 _ _) (ok_ld0 (t := 0) (i := 0) (zrow_iload_n (k := 0) (md := zmd_41) zh_41 (by decide +kernel) rfl rfl))
theorem zr_41_4 : zOK zPre 41 4 (s_k (nat_lit 16) (nat_lit 5)) := ok_iconst (n := 1) (md := zmd_41) zh_41 (by decide +kernel) rfl (by decide +kernel)
theorem zr_41_5 : zOK zPre 41 5 (s_isub (nat_lit 6)) := ok_isub (md := zmd_41) zh_41 (by decide +kernel) rfl
theorem zr_41_6 : zOK zPre 41 6 (s_iand (nat_lit 7)) := ok_iand (md := zmd_41) zh_41 (by decide +kernel) rfl
theorem zr_41_7 : zOK zPre 41 7 (s_s1_0 (nat_lit 45067) (nat_lit 8)) := zokE (zs1_0 _ _) (ok_s10 (t := 0) (i := 0) (zrow_istore_n (k := 0) (md := zmd_41) zh_41 (by decide +kernel) rfl rfl))
theorem zr_41_8 : zOK zPre 41 8 (s_ld_0 (nat_lit 45067) (nat_lit 9)) := zokE (zld_0 _ _) (ok_ld0 (t := 0) (i := 0) (zrow_iload_n (k := 0) (md := zmd_41) zh_41 (by decide +kernel) rfl rfl))
theorem zr_41_9 : zOK zPre 41 9 (s_if (nat_lit 4) zi_gt (nat_lit 17) (nat_lit 12)) := ok_if_gt (off := 8) (md := zmd_41) zh_41 (by decide +kernel) (by decide +kernel) rfl
theorem zr_41_12 : zOK zPre 41 12 (s_ld_0 (nat_lit 45067) (nat_lit 13)) := zokE (zld_0 _ _) (ok_ld0 (t := 0) (i := 0) (zrow_iload_n (k := 0) (md := zmd_41) zh_41 (by decide +kernel) rfl rfl))
theorem zr_41_13 : zOK zPre 41 13 (s_k (nat_lit 512) (nat_lit 15)) := ok_bipush (n := 32) (md := zmd_41) zh_41 (by decide +kernel) rfl (by decide +kernel)
theorem zr_41_15 : zOK zPre 41 15 (s_iand (nat_lit 16)) := ok_iand (md := zmd_41) zh_41 (by decide +kernel) rfl
theorem zr_41_16 : zOK zPre 41 16 (s_ret (nat_lit 45067)) := ok_ret0 (t := 0) (i := .ireturn) (ty := .int) (md := zmd_41) zh_41 rfl (by decide +kernel) ⟨rfl, rfl⟩
theorem zr_41_17 : zOK zPre 41 17 (s_k (nat_lit 16) (nat_lit 18)) := ok_iconst (n := 1) (md := zmd_41) zh_41 (by decide +kernel) rfl (by decide +kernel)
theorem zr_41_18 : zOK zPre 41 18 (s_s1_1 (nat_lit 45067) (nat_lit 19)) := zokE (zs1_1 _ _) (ok_s10 (t := 0) (i := 1) (zrow_istore_n (k := 1) (md := zmd_41) zh_41 (by decide +kernel) rfl rfl))
theorem zr_41_19 : zOK zPre 41 19 (s_ld_0 (nat_lit 45067) (nat_lit 20)) := zokE (zld_0 _ _) (ok_ld0 (t := 0) (i := 0) (zrow_iload_n (k := 0) (md := zmd_41) zh_41 (by decide +kernel) rfl rfl))
theorem zr_41_20 : zOK zPre 41 20 (s_k (nat_lit 1048576) (nat_lit 23)) := ok_ldcw (i := 264) (n := (65536 : Int32)) (md := zmd_41) zh_41 (by decide +kernel) rfl zw_2_187 (by decide +kernel)
theorem zr_41_23 : zOK zPre 41 23 (s_ic (nat_lit 5) zu_le (nat_lit 34) (nat_lit 26)) := ok_ic_le (off := 11) (md := zmd_41) zh_41 (by decide +kernel) (by decide +kernel) rfl
theorem zr_41_26 : zOK zPre 41 26 (s_inc (nat_lit 1) (nat_lit 256) (nat_lit 29)) := ok_inc (n := 16) (md := zmd_41) zh_41 (by decide +kernel) rfl (by decide +kernel)
theorem zr_41_29 : zOK zPre 41 29 (s_ld_0 (nat_lit 45067) (nat_lit 30)) := zokE (zld_0 _ _) (ok_ld0 (t := 0) (i := 0) (zrow_iload_n (k := 0) (md := zmd_41) zh_41 (by decide +kernel) rfl rfl))
theorem zr_41_30 : zOK zPre 41 30 (s_k (nat_lit 256) (nat_lit 32)) := ok_bipush (n := 16) (md := zmd_41) zh_41 (by decide +kernel) rfl (by decide +kernel)
theorem zr_41_32 : zOK zPre 41 32 (s_iushr (nat_lit 33)) := ok_iushr (md := zmd_41) zh_41 (by decide +kernel) rfl
theorem zr_41_33 : zOK zPre 41 33 (s_s1_0 (nat_lit 45067) (nat_lit 34)) := zokE (zs1_0 _ _) (ok_s10 (t := 0) (i := 0) (zrow_istore_n (k := 0) (md := zmd_41) zh_41 (by decide +kernel) rfl rfl))
theorem zr_41_34 : zOK zPre 41 34 (s_ld_0 (nat_lit 45067) (nat_lit 35)) := zokE (zld_0 _ _) (ok_ld0 (t := 0) (i := 0) (zrow_iload_n (k := 0) (md := zmd_41) zh_41 (by decide +kernel) rfl rfl))
theorem zr_41_35 : zOK zPre 41 35 (s_k (nat_lit 4096) (nat_lit 38)) := ok_sipush (n := 256) (md := zmd_41) zh_41 (by decide +kernel) rfl (by decide +kernel)
theorem zr_41_38 : zOK zPre 41 38 (s_ic (nat_lit 5) zu_le (nat_lit 49) (nat_lit 41)) := ok_ic_le (off := 11) (md := zmd_41) zh_41 (by decide +kernel) (by decide +kernel) rfl
theorem zr_41_41 : zOK zPre 41 41 (s_inc (nat_lit 1) (nat_lit 128) (nat_lit 44)) := ok_inc (n := 8) (md := zmd_41) zh_41 (by decide +kernel) rfl (by decide +kernel)
theorem zr_41_44 : zOK zPre 41 44 (s_ld_0 (nat_lit 45067) (nat_lit 45)) := zokE (zld_0 _ _) (ok_ld0 (t := 0) (i := 0) (zrow_iload_n (k := 0) (md := zmd_41) zh_41 (by decide +kernel) rfl rfl))
theorem zr_41_45 : zOK zPre 41 45 (s_k (nat_lit 128) (nat_lit 47)) := ok_bipush (n := 8) (md := zmd_41) zh_41 (by decide +kernel) rfl (by decide +kernel)
theorem zr_41_47 : zOK zPre 41 47 (s_iushr (nat_lit 48)) := ok_iushr (md := zmd_41) zh_41 (by decide +kernel) rfl
theorem zr_41_48 : zOK zPre 41 48 (s_s1_0 (nat_lit 45067) (nat_lit 49)) := zokE (zs1_0 _ _) (ok_s10 (t := 0) (i := 0) (zrow_istore_n (k := 0) (md := zmd_41) zh_41 (by decide +kernel) rfl rfl))
theorem zr_41_49 : zOK zPre 41 49 (s_ld_0 (nat_lit 45067) (nat_lit 50)) := zokE (zld_0 _ _) (ok_ld0 (t := 0) (i := 0) (zrow_iload_n (k := 0) (md := zmd_41) zh_41 (by decide +kernel) rfl rfl))
theorem zr_41_50 : zOK zPre 41 50 (s_k (nat_lit 256) (nat_lit 52)) := ok_bipush (n := 16) (md := zmd_41) zh_41 (by decide +kernel) rfl (by decide +kernel)
theorem zr_41_52 : zOK zPre 41 52 (s_ic (nat_lit 5) zu_le (nat_lit 62) (nat_lit 55)) := ok_ic_le (off := 10) (md := zmd_41) zh_41 (by decide +kernel) (by decide +kernel) rfl
theorem zr_41_55 : zOK zPre 41 55 (s_inc (nat_lit 1) (nat_lit 64) (nat_lit 58)) := ok_inc (n := 4) (md := zmd_41) zh_41 (by decide +kernel) rfl (by decide +kernel)
theorem zr_41_58 : zOK zPre 41 58 (s_ld_0 (nat_lit 45067) (nat_lit 59)) := zokE (zld_0 _ _) (ok_ld0 (t := 0) (i := 0) (zrow_iload_n (k := 0) (md := zmd_41) zh_41 (by decide +kernel) rfl rfl))
theorem zr_41_59 : zOK zPre 41 59 (s_k (nat_lit 64) (nat_lit 60)) := ok_iconst (n := 4) (md := zmd_41) zh_41 (by decide +kernel) rfl (by decide +kernel)
theorem zr_41_60 : zOK zPre 41 60 (s_iushr (nat_lit 61)) := ok_iushr (md := zmd_41) zh_41 (by decide +kernel) rfl
theorem zr_41_61 : zOK zPre 41 61 (s_s1_0 (nat_lit 45067) (nat_lit 62)) := zokE (zs1_0 _ _) (ok_s10 (t := 0) (i := 0) (zrow_istore_n (k := 0) (md := zmd_41) zh_41 (by decide +kernel) rfl rfl))
theorem zr_41_62 : zOK zPre 41 62 (s_ld_0 (nat_lit 45067) (nat_lit 63)) := zokE (zld_0 _ _) (ok_ld0 (t := 0) (i := 0) (zrow_iload_n (k := 0) (md := zmd_41) zh_41 (by decide +kernel) rfl rfl))
theorem zr_41_63 : zOK zPre 41 63 (s_k (nat_lit 64) (nat_lit 64)) := ok_iconst (n := 4) (md := zmd_41) zh_41 (by decide +kernel) rfl (by decide +kernel)
theorem zr_41_64 : zOK zPre 41 64 (s_ic (nat_lit 5) zu_le (nat_lit 74) (nat_lit 67)) := ok_ic_le (off := 10) (md := zmd_41) zh_41 (by decide +kernel) (by decide +kernel) rfl
theorem zr_41_67 : zOK zPre 41 67 (s_inc (nat_lit 1) (nat_lit 32) (nat_lit 70)) := ok_inc (n := 2) (md := zmd_41) zh_41 (by decide +kernel) rfl (by decide +kernel)
theorem zr_41_70 : zOK zPre 41 70 (s_ld_0 (nat_lit 45067) (nat_lit 71)) := zokE (zld_0 _ _) (ok_ld0 (t := 0) (i := 0) (zrow_iload_n (k := 0) (md := zmd_41) zh_41 (by decide +kernel) rfl rfl))
theorem zr_41_71 : zOK zPre 41 71 (s_k (nat_lit 32) (nat_lit 72)) := ok_iconst (n := 2) (md := zmd_41) zh_41 (by decide +kernel) rfl (by decide +kernel)
theorem zr_41_72 : zOK zPre 41 72 (s_iushr (nat_lit 73)) := ok_iushr (md := zmd_41) zh_41 (by decide +kernel) rfl
theorem zr_41_73 : zOK zPre 41 73 (s_s1_0 (nat_lit 45067) (nat_lit 74)) := zokE (zs1_0 _ _) (ok_s10 (t := 0) (i := 0) (zrow_istore_n (k := 0) (md := zmd_41) zh_41 (by decide +kernel) rfl rfl))
theorem zr_41_74 : zOK zPre 41 74 (s_ld_1 (nat_lit 45067) (nat_lit 75)) := zokE (zld_1 _ _) (ok_ld0 (t := 0) (i := 1) (zrow_iload_n (k := 1) (md := zmd_41) zh_41 (by decide +kernel) rfl rfl))
theorem zr_41_75 : zOK zPre 41 75 (s_ld_0 (nat_lit 45067) (nat_lit 76)) := zokE (zld_0 _ _) (ok_ld0 (t := 0) (i := 0) (zrow_iload_n (k := 0) (md := zmd_41) zh_41 (by decide +kernel) rfl rfl))
theorem zr_41_76 : zOK zPre 41 76 (s_k (nat_lit 16) (nat_lit 77)) := ok_iconst (n := 1) (md := zmd_41) zh_41 (by decide +kernel) rfl (by decide +kernel)
theorem zr_41_77 : zOK zPre 41 77 (s_iushr (nat_lit 78)) := ok_iushr (md := zmd_41) zh_41 (by decide +kernel) rfl
theorem zr_41_78 : zOK zPre 41 78 (s_iadd (nat_lit 79)) := ok_iadd (md := zmd_41) zh_41 (by decide +kernel) rfl
theorem zr_41_79 : zOK zPre 41 79 (s_ret (nat_lit 45067)) := ok_ret0 (t := 0) (i := .ireturn) (ty := .int) (md := zmd_41) zh_41 rfl (by decide +kernel) ⟨rfl, rfl⟩
theorem zr_42_0 : zOK zPre 42 0 (s_ld_0 (nat_lit 1136) (nat_lit 1)) := zokE (zld_0 _ _) (ok_ld0 (t := 4) (i := 0) (zrow_aload_n (k := 0) (md := zmd_42) zh_42 (by decide +kernel) rfl rfl))
theorem zr_42_1 : zOK zPre 42 1 (s_al (nat_lit 2)) := ok_al (md := zmd_42) zh_42 (by decide +kernel) rfl
theorem zr_42_2 : zOK zPre 42 2 (s_na (nat_lit 20) (nat_lit 0) (nat_lit 4)) := ok_na0 (by decide) rfl (zrow_na20 (md := zmd_42) zh_42 (by decide +kernel) rfl zw_1_83)
theorem zr_42_4 : zOK zPre 42 4 (s_s1_2 (nat_lit 1136) (nat_lit 5)) := zokE (zs1_2 _ _) (ok_s10 (t := 4) (i := 2) (zrow_astore_n (k := 2) (md := zmd_42) zh_42 (by decide +kernel) rfl rfl))
theorem zr_42_5 : zOK zPre 42 5 (s_k (nat_lit 0) (nat_lit 6)) := ok_iconst (n := 0) (md := zmd_42) zh_42 (by decide +kernel) rfl (by decide +kernel)
theorem zr_42_6 : zOK zPre 42 6 (s_s1_3 (nat_lit 45067) (nat_lit 7)) := zokE (zs1_3 _ _) (ok_s10 (t := 0) (i := 3) (zrow_istore_n (k := 3) (md := zmd_42) zh_42 (by decide +kernel) rfl rfl))
theorem zr_42_7 : zOK zPre 42 7 (s_k (nat_lit 0) (nat_lit 8)) := ok_iconst (n := 0) (md := zmd_42) zh_42 (by decide +kernel) rfl (by decide +kernel)
theorem zr_42_8 : zOK zPre 42 8 (s_s1_4 (nat_lit 45067) (nat_lit 10)) := zokE (zs1_4 _ _) (ok_s10 (t := 0) (i := 4) (zrow_istore (md := zmd_42) zh_42 (by decide +kernel) rfl))
theorem zr_42_10 : zOK zPre 42 10 (s_ld_4 (nat_lit 45067) (nat_lit 12)) := zokE (zld_4 _ _) (ok_ld0 (t := 0) (i := 4) (zrow_iload (md := zmd_42) zh_42 (by decide +kernel) rfl))
theorem zr_42_12 : zOK zPre 42 12 (s_ld_0 (nat_lit 1136) (nat_lit 13)) := zokE (zld_0 _ _) (ok_ld0 (t := 4) (i := 0) (zrow_aload_n (k := 0) (md := zmd_42) zh_42 (by decide +kernel) rfl rfl))
theorem zr_42_13 : zOK zPre 42 13 (s_al (nat_lit 14)) := ok_al (md := zmd_42) zh_42 (by decide +kernel) rfl
theorem zr_42_14 : zOK zPre 42 14 (s_ic (nat_lit 3) zu_ge (nat_lit 67) (nat_lit 17)) := ok_ic_ge (off := 53) (md := zmd_42) zh_42 (by decide +kernel) (by decide +kernel) rfl
theorem zr_42_17 : zOK zPre 42 17 (s_ld_0 (nat_lit 1136) (nat_lit 18)) := zokE (zld_0 _ _) (ok_ld0 (t := 4) (i := 0) (zrow_aload_n (k := 0) (md := zmd_42) zh_42 (by decide +kernel) rfl rfl))
theorem zr_42_18 : zOK zPre 42 18 (s_ld_4 (nat_lit 45067) (nat_lit 20)) := zokE (zld_4 _ _) (ok_ld0 (t := 0) (i := 4) (zrow_iload (md := zmd_42) zh_42 (by decide +kernel) rfl))
theorem zr_42_20 : zOK zPre 42 20 (s_ald (nat_lit 20) (nat_lit 20) (nat_lit 21)) := ok_ald0 (by decide) (by decide) (by decide) (zrow_iaload (md := zmd_42) zh_42 (by decide +kernel) rfl)
theorem zr_42_21 : zOK zPre 42 21 (s_ld_4 (nat_lit 45067) (nat_lit 23)) := zokE (zld_4 _ _) (ok_ld0 (t := 0) (i := 4) (zrow_iload (md := zmd_42) zh_42 (by decide +kernel) rfl))
theorem zr_42_23 : zOK zPre 42 23 (s_ld_1 (nat_lit 1136) (nat_lit 24)) := zokE (zld_1 _ _) (ok_ld0 (t := 4) (i := 1) (zrow_aload_n (k := 1) (md := zmd_42) zh_42 (by decide +kernel) rfl rfl))
theorem zr_42_24 : zOK zPre 42 24 (s_al (nat_lit 25)) := ok_al (md := zmd_42) zh_42 (by decide +kernel) rfl
theorem zr_42_25 : zOK zPre 42 25 (s_ic (nat_lit 3) zu_ge (nat_lit 35) (nat_lit 28)) := ok_ic_ge (off := 10) (md := zmd_42) zh_42 (by decide +kernel) (by decide +kernel) rfl
theorem zr_42_28 : zOK zPre 42 28 (s_ld_1 (nat_lit 1136) (nat_lit 29)) := zokE (zld_1 _ _) (ok_ld0 (t := 4) (i := 1) (zrow_aload_n (k := 1) (md := zmd_42) zh_42 (by decide +kernel) rfl rfl))
theorem zr_42_29 : zOK zPre 42 29 (s_ld_4 (nat_lit 45067) (nat_lit 31)) := zokE (zld_4 _ _) (ok_ld0 (t := 0) (i := 4) (zrow_iload (md := zmd_42) zh_42 (by decide +kernel) rfl))
theorem zr_42_31 : zOK zPre 42 31 (s_ald (nat_lit 20) (nat_lit 20) (nat_lit 32)) := ok_ald0 (by decide) (by decide) (by decide) (zrow_iaload (md := zmd_42) zh_42 (by decide +kernel) rfl)
theorem zr_42_32 : zOK zPre 42 32 (s_go (nat_lit 36)) := ok_go (off := 4) (md := zmd_42) zh_42 (by decide +kernel) (by decide +kernel)
theorem zr_42_35 : zOK zPre 42 35 (s_k (nat_lit 0) (nat_lit 36)) := ok_iconst (n := 0) (md := zmd_42) zh_42 (by decide +kernel) rfl (by decide +kernel)
theorem zr_42_36 : zOK zPre 42 36 (s_isub (nat_lit 37)) := ok_isub (md := zmd_42) zh_42 (by decide +kernel) rfl
theorem zr_42_37 : zOK zPre 42 37 (s_ld_3 (nat_lit 45067) (nat_lit 38)) := zokE (zld_3 _ _) (ok_ld0 (t := 0) (i := 3) (zrow_iload_n (k := 3) (md := zmd_42) zh_42 (by decide +kernel) rfl rfl))
theorem zr_42_38 : zOK zPre 42 38 (s_isub (nat_lit 39)) := ok_isub (md := zmd_42) zh_42 (by decide +kernel) rfl
theorem zr_42_39 : zOK zPre 42 39 (s_s1_5 (nat_lit 45067) (nat_lit 41)) := zokE (zs1_5 _ _) (ok_s10 (t := 0) (i := 5) (zrow_istore (md := zmd_42) zh_42 (by decide +kernel) rfl))
theorem zr_42_41 : zOK zPre 42 41 (s_ld_5 (nat_lit 45067) (nat_lit 43)) := zokE (zld_5 _ _) (ok_ld0 (t := 0) (i := 5) (zrow_iload (md := zmd_42) zh_42 (by decide +kernel) rfl))
theorem zr_42_43 : zOK zPre 42 43 (s_if (nat_lit 3) zi_ge (nat_lit 50) (nat_lit 46)) := ok_if_ge (off := 7) (md := zmd_42) zh_42 (by decide +kernel) (by decide +kernel) rfl
theorem zr_42_46 : zOK zPre 42 46 (s_k (nat_lit 16) (nat_lit 47)) := ok_iconst (n := 1) (md := zmd_42) zh_42 (by decide +kernel) rfl (by decide +kernel)
theorem zr_42_47 : zOK zPre 42 47 (s_go (nat_lit 51)) := ok_go (off := 4) (md := zmd_42) zh_42 (by decide +kernel) (by decide +kernel)
end RowsOK
