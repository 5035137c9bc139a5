section RowsOK
theorem zr_14_17 : zOK zPre 14 17 (s_dup (nat_lit 18)) := ok_dup (md := zmd_14) zh_14 (by decide +kernel) rfl
theorem zr_14_18 : zOK zPre 14 18 (s_call (nat_lit 11) (nat_lit 15) (nat_lit 1) (nat_lit 1) (nat_lit 0) [] (nat_lit 21)) := ok_call (md := zmd_14) zh_14 zh_15 rfl (by decide) (by decide) (Or.inr (by decide)) zp_15 (zrow_callI (mdc := zmd_15) (index := 150) (md := zmd_14) zh_14 (by decide +kernel) rfl rfl rfl rfl zc_15 (by decide) zw_6_203 zw_6_204 zw_1_12 zd_15) trivial
theorem zr_14_21 : zOK zPre 14 21 (s_pf (nat_lit 10) (nat_lit 1) (nat_lit 5) (nat_lit 24)) := ok_pf0 (by decide) (zrow_pfF (ty := tyX11 1) (index := 151) (ref := "ResidueworksModel") (C := RX11) (T := TX11) (N := 6) (ty0 := tyX11) (md := zmd_14) zh_14 (by decide +kernel) rfl rfl (by decide) zu_X11 tyX11_ok nmX11 zw_7_48 (Or.inl rfl) rfl rfl rfl (by decide +kernel) zfty5)
theorem zr_14_24 : zOK zPre 14 24 (s_ld_0 (nat_lit 1136) (nat_lit 25)) := zokE (zld_0 _ _) (ok_ld0 (t := 4) (i := 0) (zrow_aload_n (k := 0) (md := zmd_14) zh_14 (by decide +kernel) rfl rfl))
theorem zr_14_25 : zOK zPre 14 25 (s_new (nat_lit 12) (nat_lit 3) [(nat_lit 0), (nat_lit 5), (nat_lit 0)] (nat_lit 28)) := ok_new0 (fsV := zfv_Jx4a65c) (by decide) zfs_Jx4a65c (zrow_new (index := 155) (C := RJx4a65c) (T := TJx4a65c) (N := 3) (ty0 := tyJx4a65c) (md := zmd_14) zh_14 (by decide +kernel) rfl rfl zu_Jx4a65c tyJx4a65c_ok zw_6_233 zw_6_234 zw_1_17 zdf_Jx4a65c)
theorem zr_14_28 : zOK zPre 14 28 (s_dup (nat_lit 29)) := ok_dup (md := zmd_14) zh_14 (by decide +kernel) rfl
theorem zr_14_29 : zOK zPre 14 29 (s_call (nat_lit 12) (nat_lit 17) (nat_lit 1) (nat_lit 1) (nat_lit 0) [] (nat_lit 32)) := ok_call (md := zmd_14) zh_14 zh_17 rfl (by decide) (by decide) (Or.inr (by decide)) zp_17 (zrow_callI (mdc := zmd_17) (index := 157) (md := zmd_14) zh_14 (by decide +kernel) rfl rfl rfl rfl zc_17 (by decide) zw_6_235 zw_6_236 zw_1_17 zd_17) trivial
theorem zr_14_32 : zOK zPre 14 32 (s_pf (nat_lit 10) (nat_lit 2) (nat_lit 5) (nat_lit 35)) := ok_pf0 (by decide) (zrow_pfF (ty := tyX11 2) (index := 158) (ref := "ResidueworksModel") (C := RX11) (T := TX11) (N := 6) (ty0 := tyX11) (md := zmd_14) zh_14 (by decide +kernel) rfl rfl (by decide) zu_X11 tyX11_ok nmX11 zw_7_49 (Or.inl rfl) rfl rfl rfl (by decide +kernel) zfty5)
theorem zr_14_35 : zOK zPre 14 35 (s_ld_0 (nat_lit 1136) (nat_lit 36)) := zokE (zld_0 _ _) (ok_ld0 (t := 4) (i := 0) (zrow_aload_n (k := 0) (md := zmd_14) zh_14 (by decide +kernel) rfl rfl))
theorem zr_14_36 : zOK zPre 14 36 (s_new (nat_lit 12) (nat_lit 3) [(nat_lit 0), (nat_lit 5), (nat_lit 0)] (nat_lit 39)) := ok_new0 (fsV := zfv_Jx4a65c) (by decide) zfs_Jx4a65c (zrow_new (index := 155) (C := RJx4a65c) (T := TJx4a65c) (N := 3) (ty0 := tyJx4a65c) (md := zmd_14) zh_14 (by decide +kernel) rfl rfl zu_Jx4a65c tyJx4a65c_ok zw_6_233 zw_6_234 zw_1_17 zdf_Jx4a65c)
theorem zr_14_39 : zOK zPre 14 39 (s_dup (nat_lit 40)) := ok_dup (md := zmd_14) zh_14 (by decide +kernel) rfl
theorem zr_14_40 : zOK zPre 14 40 (s_call (nat_lit 12) (nat_lit 17) (nat_lit 1) (nat_lit 1) (nat_lit 0) [] (nat_lit 43)) := ok_call (md := zmd_14) zh_14 zh_17 rfl (by decide) (by decide) (Or.inr (by decide)) zp_17 (zrow_callI (mdc := zmd_17) (index := 157) (md := zmd_14) zh_14 (by decide +kernel) rfl rfl rfl rfl zc_17 (by decide) zw_6_235 zw_6_236 zw_1_17 zd_17) trivial
theorem zr_14_43 : zOK zPre 14 43 (s_pf (nat_lit 10) (nat_lit 3) (nat_lit 5) (nat_lit 46)) := ok_pf0 (by decide) (zrow_pfF (ty := tyX11 3) (index := 161) (ref := "ResidueworksModel") (C := RX11) (T := TX11) (N := 6) (ty0 := tyX11) (md := zmd_14) zh_14 (by decide +kernel) rfl rfl (by decide) zu_X11 tyX11_ok nmX11 zw_7_50 (Or.inl rfl) rfl rfl rfl (by decide +kernel) zfty5)
theorem zr_14_46 : zOK zPre 14 46 (s_ld_0 (nat_lit 1136) (nat_lit 47)) := zokE (zld_0 _ _) (ok_ld0 (t := 4) (i := 0) (zrow_aload_n (k := 0) (md := zmd_14) zh_14 (by decide +kernel) rfl rfl))
theorem zr_14_47 : zOK zPre 14 47 (s_new (nat_lit 12) (nat_lit 3) [(nat_lit 0), (nat_lit 5), (nat_lit 0)] (nat_lit 50)) := ok_new0 (fsV := zfv_Jx4a65c) (by decide) zfs_Jx4a65c (zrow_new (index := 155) (C := RJx4a65c) (T := TJx4a65c) (N := 3) (ty0 := tyJx4a65c) (md := zmd_14) zh_14 (by decide +kernel) rfl rfl zu_Jx4a65c tyJx4a65c_ok zw_6_233 zw_6_234 zw_1_17 zdf_Jx4a65c)
theorem zr_14_50 : zOK zPre 14 50 (s_dup (nat_lit 51)) := ok_dup (md := zmd_14) zh_14 (by decide +kernel) rfl
theorem zr_14_51 : zOK zPre 14 51 (s_call (nat_lit 12) (nat_lit 17) (nat_lit 1) (nat_lit 1) (nat_lit 0) [] (nat_lit 54)) := ok_call (md := zmd_14) zh_14 zh_17 rfl (by decide) (by decide) (Or.inr (by decide)) zp_17 (zrow_callI (mdc := zmd_17) (index := 157) (md := zmd_14) zh_14 (by decide +kernel) rfl rfl rfl rfl zc_17 (by decide) zw_6_235 zw_6_236 zw_1_17 zd_17) trivial
theorem zr_14_54 : zOK zPre 14 54 (s_pf (nat_lit 10) (nat_lit 4) (nat_lit 5) (nat_lit 57)) := ok_pf0 (by decide) (zrow_pfF (ty := tyX11 4) (index := 164) (ref := "ResidueworksModel") (C := RX11) (T := TX11) (N := 6) (ty0 := tyX11) (md := zmd_14) zh_14 (by decide +kernel) rfl rfl (by decide) zu_X11 tyX11_ok nmX11 zw_7_51 (Or.inl rfl) rfl rfl rfl (by decide +kernel) zfty5)
theorem zr_14_57 : zOK zPre 14 57 (s_k (nat_lit 0) (nat_lit 58)) := ok_iconst (n := 0) (md := zmd_14) zh_14 (by decide +kernel) rfl (by decide +kernel)
theorem zr_14_58 : zOK zPre 14 58 (s_s1_1 (nat_lit 45067) (nat_lit 59)) := zokE (zs1_1 _ _) (ok_s10 (t := 0) (i := 1) (zrow_istore_n (k := 1) (md := zmd_14) zh_14 (by decide +kernel) rfl rfl))
theorem zr_14_59 : zOK zPre 14 59 (s_ld_1 (nat_lit 45067) (nat_lit 60)) := zokE (zld_1 _ _) (ok_ld0 (t := 0) (i := 1) (zrow_iload_n (k := 1) (md := zmd_14) zh_14 (by decide +kernel) rfl rfl))
theorem zr_14_60 : zOK zPre 14 60 (s_k (nat_lit 128) (nat_lit 62)) := ok_bipush (n := 8) (md := zmd_14) zh_14 (by decide +kernel) rfl (by decide +kernel)
theorem zr_14_62 : zOK zPre 14 62 (s_ic (nat_lit 3) zu_ge (nat_lit 81) (nat_lit 65)) := ok_ic_ge (off := 19) (md := zmd_14) zh_14 (by decide +kernel) (by decide +kernel) rfl
theorem zr_14_65 : zOK zPre 14 65 (s_ld_0 (nat_lit 1136) (nat_lit 66)) := zokE (zld_0 _ _) (ok_ld0 (t := 4) (i := 0) (zrow_aload_n (k := 0) (md := zmd_14) zh_14 (by decide +kernel) rfl rfl))
theorem zr_14_66 : zOK zPre 14 66 (s_gf (nat_lit 10) (nat_lit 0) (nat_lit 69)) := ok_gf0 (by decide) (zrow_gf (index := 144) (ref := "ResidueworksModel") (C := RX11) (T := TX11) (N := 6) (md := zmd_14) zh_14 (by decide +kernel) rfl rfl (by decide) zu_X11 zw_7_47 (Or.inl rfl))
theorem zr_14_69 : zOK zPre 14 69 (s_ld_1 (nat_lit 45067) (nat_lit 70)) := zokE (zld_1 _ _) (ok_ld0 (t := 0) (i := 1) (zrow_iload_n (k := 1) (md := zmd_14) zh_14 (by decide +kernel) rfl rfl))
theorem zr_14_70 : zOK zPre 14 70 (s_k (nat_lit 2) (nat_lit 71)) := ok_lconst (n := 0) (md := zmd_14) zh_14 (by decide +kernel) rfl (by decide +kernel)
theorem zr_14_71 : zOK zPre 14 71 (s_call (nat_lit 99) (nat_lit 20) (nat_lit 6) (nat_lit 1) (nat_lit 1) [] (nat_lit 74)) := ok_call (md := zmd_14) zh_14 zh_20 rfl (by decide) (by decide) (Or.inl rfl) zp_20 (zrow_callS (mdc := zmd_20) (index := 68) (md := zmd_14) zh_14 (by decide +kernel) rfl rfl zc_20 zw_7_22 zw_7_23 zw_1_10 zd_20) trivial
theorem zr_14_74 : zOK zPre 14 74 (s_aas (nat_lit 28) (nat_lit 9) (nat_lit 75)) := ok_aas0 (by decide) (by decide) (zrow_aa1 (by decide) (by decide) (md := zmd_14) zh_14 (by decide +kernel) rfl rfl rfl)
theorem zr_14_75 : zOK zPre 14 75 (s_inc (nat_lit 1) (nat_lit 16) (nat_lit 78)) := ok_inc (n := 1) (md := zmd_14) zh_14 (by decide +kernel) rfl (by decide +kernel)
theorem zr_14_78 : zOK zPre 14 78 (s_go (nat_lit 59)) := ok_go (off := -19) (md := zmd_14) zh_14 (by decide +kernel) (by decide +kernel)
theorem zr_14_81 : zOK zPre 14 81 (s_rv) := ok_rv (md := zmd_14) zh_14 rfl (by decide +kernel)
theorem zr_15_0 : zOK zPre 15 0 (s_ld_0 (nat_lit 1136) (nat_lit 1)) := zokE (zld_0 _ _) (ok_ld0 (t := 4) (i := 0) (zrow_aload_n (k := 0) (md := zmd_15) zh_15 (by decide +kernel) rfl rfl))
theorem zr_15_1 : zOK zPre 15 1 (s_k (nat_lit 256) (nat_lit 3)) := ok_bipush (n := 16) (md := zmd_15) zh_15 (by decide +kernel) rfl (by decide +kernel)
theorem zr_15_3 : zOK zPre 15 3 (s_call (nat_lit 11) (nat_lit 16) (nat_lit 2) (nat_lit 2) (nat_lit 0) [] (nat_lit 6)) := ok_call (md := zmd_15) zh_15 zh_16 rfl (by decide) (by decide) (Or.inr (by decide)) zp_16 (zrow_callI (mdc := zmd_16) (index := 1) (md := zmd_15) zh_15 (by decide +kernel) rfl rfl rfl rfl zc_16 (by decide) zw_6_206 zw_6_207 zw_1_11 zd_16) trivial
theorem zr_15_6 : zOK zPre 15 6 (s_rv) := ok_rv (md := zmd_15) zh_15 rfl (by decide +kernel)
theorem zr_16_0 : zOK zPre 16 0 (s_ld_0 (nat_lit 1136) (nat_lit 1)) := zokE (zld_0 _ _) (ok_ld0 (t := 4) (i := 0) (zrow_aload_n (k := 0) (md := zmd_16) zh_16 (by decide +kernel) rfl rfl))
theorem zr_16_1 : zOK zPre 16 1 (s_oi (nat_lit 4)) := ok_oi (index := 3) (md := zmd_16) zh_16 (by decide +kernel) rfl zw_6_209 zw_1_48 zw_oi
theorem zr_16_4 : zOK zPre 16 4 (s_k (nat_lit 16) (nat_lit 7)) := ok_gets (index := 18) (C := "java/lang/String") (n := "COMPACT_STRINGS") (d := "Z") (md := zmd_16) zh_16 (by decide +kernel) rfl (List.mem_of_getElem? (i := 3) rfl) zw_6_210
theorem zr_16_7 : zOK zPre 16 7 (s_if (nat_lit 0) zi_eq (nat_lit 25) (nat_lit 10)) := ok_if_eq (off := 18) (md := zmd_16) zh_16 (by decide +kernel) (by decide +kernel) rfl
theorem zr_16_10 : zOK zPre 16 10 (s_ld_0 (nat_lit 1136) (nat_lit 11)) := zokE (zld_0 _ _) (ok_ld0 (t := 4) (i := 0) (zrow_aload_n (k := 0) (md := zmd_16) zh_16 (by decide +kernel) rfl rfl))
theorem zr_16_11 : zOK zPre 16 11 (s_ld_1 (nat_lit 45067) (nat_lit 12)) := zokE (zld_1 _ _) (ok_ld0 (t := 0) (i := 1) (zrow_iload_n (k := 1) (md := zmd_16) zh_16 (by decide +kernel) rfl rfl))
theorem zr_16_12 : zOK zPre 16 12 (s_na (nat_lit 22) (nat_lit 0) (nat_lit 14)) := ok_na0 (by decide) rfl (zrow_na22 (md := zmd_16) zh_16 (by decide +kernel) rfl zw_1_114)
theorem zr_16_14 : zOK zPre 16 14 (s_pf (nat_lit 11) (nat_lit 0) (nat_lit 5) (nat_lit 17)) := ok_pf0 (by decide) (zrow_pf (ty := tyJ4 0) (index := 15) (ref := "java/lang/AbstractStringBuilder") (C := RJ4) (T := TJ4) (N := 4) (ty0 := tyJ4) (md := zmd_16) zh_16 (by decide +kernel) rfl rfl (by decide) zu_J4 tyJ4_ok nmJ4 zw_6_219 (Or.inl rfl) rfl (by decide +kernel) zfty5a)
theorem zr_16_17 : zOK zPre 16 17 (s_ld_0 (nat_lit 1136) (nat_lit 18)) := zokE (zld_0 _ _) (ok_ld0 (t := 4) (i := 0) (zrow_aload_n (k := 0) (md := zmd_16) zh_16 (by decide +kernel) rfl rfl))
theorem zr_16_18 : zOK zPre 16 18 (s_k (nat_lit 0) (nat_lit 19)) := ok_iconst (n := 0) (md := zmd_16) zh_16 (by decide +kernel) rfl (by decide +kernel)
theorem zr_16_19 : zOK zPre 16 19 (s_pf (nat_lit 11) (nat_lit 1) (nat_lit 2) (nat_lit 22)) := ok_pf0 (by decide) (zrow_pf (ty := .byte) (index := 22) (ref := "java/lang/AbstractStringBuilder") (C := RJ4) (T := TJ4) (N := 4) (ty0 := tyJ4) (md := zmd_16) zh_16 (by decide +kernel) rfl rfl (by decide) zu_J4 tyJ4_ok nmJ4 zw_6_220 (Or.inl rfl) rfl (by decide +kernel) zfty2)
theorem zr_16_22 : zOK zPre 16 22 (s_go (nat_lit 38)) := ok_go (off := 16) (md := zmd_16) zh_16 (by decide +kernel) (by decide +kernel)
theorem zr_16_38 : zOK zPre 16 38 (s_rv) := ok_rv (md := zmd_16) zh_16 rfl (by decide +kernel)
theorem zr_17_0 : zOK zPre 17 0 (s_ld_0 (nat_lit 1136) (nat_lit 1)) := zokE (zld_0 _ _) (ok_ld0 (t := 4) (i := 0) (zrow_aload_n (k := 0) (md := zmd_17) zh_17 (by decide +kernel) rfl rfl))
theorem zr_17_1 : zOK zPre 17 1 (s_call (nat_lit 12) (nat_lit 18) (nat_lit 1) (nat_lit 1) (nat_lit 0) [] (nat_lit 4)) := ok_call (md := zmd_17) zh_17 zh_18 rfl (by decide) (by decide) (Or.inr (by decide)) zp_18 (zrow_callI (mdc := zmd_18) (index := 1) (md := zmd_17) zh_17 (by decide +kernel) rfl rfl rfl rfl zc_18 (by decide) zw_6_238 zw_6_239 zw_1_16 zd_18) trivial
theorem zr_17_4 : zOK zPre 17 4 (s_ld_0 (nat_lit 1136) (nat_lit 5)) := zokE (zld_0 _ _) (ok_ld0 (t := 4) (i := 0) (zrow_aload_n (k := 0) (md := zmd_17) zh_17 (by decide +kernel) rfl rfl))
theorem zr_17_5 : zOK zPre 17 5 (s_k (nat_lit 38) (nat_lit 8)) := ok_gets (index := 39) (C := "java/util/ArrayList") (n := "DEFAULTCAPACITY_EMPTY_ELEMENTDATA") (d := "[Ljava/lang/Object;") (md := zmd_17) zh_17 (by decide +kernel) rfl (List.mem_of_getElem? (i := 1) rfl) zw_7_5
theorem zr_17_8 : zOK zPre 17 8 (s_pf (nat_lit 12) (nat_lit 1) (nat_lit 5) (nat_lit 11)) := ok_pf0 (by decide) (zrow_pf (ty := tyJx4a65c 1) (index := 9) (ref := "java/util/ArrayList") (C := RJx4a65c) (T := TJx4a65c) (N := 3) (ty0 := tyJx4a65c) (md := zmd_17) zh_17 (by decide +kernel) rfl rfl (by decide) zu_Jx4a65c tyJx4a65c_ok nmJx4a65c zw_7_7 (Or.inl rfl) rfl (by decide +kernel) zfty5a)
theorem zr_17_11 : zOK zPre 17 11 (s_rv) := ok_rv (md := zmd_17) zh_17 rfl (by decide +kernel)
theorem zr_18_0 : zOK zPre 18 0 (s_ld_0 (nat_lit 1136) (nat_lit 1)) := zokE (zld_0 _ _) (ok_ld0 (t := 4) (i := 0) (zrow_aload_n (k := 0) (md := zmd_18) zh_18 (by decide +kernel) rfl rfl))
theorem zr_18_1 : zOK zPre 18 1 (s_call (nat_lit 12) (nat_lit 19) (nat_lit 1) (nat_lit 1) (nat_lit 0) [] (nat_lit 4)) := ok_call (md := zmd_18) zh_18 zh_19 rfl (by decide) (by decide) (Or.inr (by decide)) zp_19 (zrow_callI (mdc := zmd_19) (index := 1) (md := zmd_18) zh_18 (by decide +kernel) rfl rfl rfl rfl zc_19 (by decide) zw_7_1 zw_7_2 zw_1_15 zd_19) trivial
theorem zr_18_4 : zOK zPre 18 4 (s_ld_0 (nat_lit 1136) (nat_lit 5)) := zokE (zld_0 _ _) (ok_ld0 (t := 4) (i := 0) (zrow_aload_n (k := 0) (md := zmd_18) zh_18 (by decide +kernel) rfl rfl))
theorem zr_18_5 : zOK zPre 18 5 (s_k (nat_lit 0) (nat_lit 6)) := ok_iconst (n := 0) (md := zmd_18) zh_18 (by decide +kernel) rfl (by decide +kernel)
theorem zr_18_6 : zOK zPre 18 6 (s_pf (nat_lit 12) (nat_lit 0) (nat_lit 0) (nat_lit 9)) := ok_pf0 (by decide) (zrow_pf (ty := .int) (index := 7) (ref := "java/util/AbstractList") (C := RJx4a65c) (T := TJx4a65c) (N := 3) (ty0 := tyJx4a65c) (md := zmd_18) zh_18 (by decide +kernel) rfl rfl (by decide) zu_Jx4a65c tyJx4a65c_ok nmJx4a65c zw_7_11 (Or.inl rfl) rfl (by decide +kernel) zfty0)
theorem zr_18_9 : zOK zPre 18 9 (s_rv) := ok_rv (md := zmd_18) zh_18 rfl (by decide +kernel)
theorem zr_19_0 : zOK zPre 19 0 (s_ld_0 (nat_lit 1136) (nat_lit 1)) := zokE (zld_0 _ _) (ok_ld0 (t := 4) (i := 0) (zrow_aload_n (k := 0) (md := zmd_19) zh_19 (by decide +kernel) rfl rfl))
theorem zr_19_1 : zOK zPre 19 1 (s_oi (nat_lit 4)) := ok_oi (index := 1) (md := zmd_19) zh_19 (by decide +kernel) rfl zw_7_4 zw_1_48 zw_oi
theorem zr_19_4 : zOK zPre 19 4 (s_rv) := ok_rv (md := zmd_19) zh_19 rfl (by decide +kernel)
theorem zr_20_0 : zOK zPre 20 0 (s_ld_0 (nat_lit 18436) (nat_lit 1)) := zokE (zld_0 _ _) (ok_ld0 (t := 1) (i := 0) (zrow_lload_n (k := 0) (md := zmd_20) zh_20 (by decide +kernel) rfl rfl))
theorem zr_20_1 : zOK zPre 20 1 (s_call (nat_lit 99) (nat_lit 21) (nat_lit 2) (nat_lit 1) (nat_lit 1) [] (nat_lit 4)) := ok_call (md := zmd_20) zh_20 zh_21 rfl (by decide) (by decide) (Or.inl rfl) zp_21 (zrow_callS (mdc := zmd_21) (index := 58) (md := zmd_20) zh_20 (by decide +kernel) rfl rfl zc_21 zw_7_25 zw_7_26 zw_1_18 zd_21) trivial
theorem zr_20_4 : zOK zPre 20 4 (s_s2 (nat_lit 18436) (nat_lit 2) (nat_lit 5)) := ok_s20 (t := 1) (i := 2) (zrow_lstore_n (k := 2) (md := zmd_20) zh_20 (by decide +kernel) rfl rfl)
theorem zr_20_5 : zOK zPre 20 5 (s_k (nat_lit 64) (nat_lit 6)) := ok_iconst (n := 4) (md := zmd_20) zh_20 (by decide +kernel) rfl (by decide +kernel)
theorem zr_20_6 : zOK zPre 20 6 (s_na (nat_lit 20) (nat_lit 0) (nat_lit 8)) := ok_na0 (by decide) rfl (zrow_na20 (md := zmd_20) zh_20 (by decide +kernel) rfl zw_1_83)
theorem zr_20_8 : zOK zPre 20 8 (s_s1_4 (nat_lit 1136) (nat_lit 10)) := zokE (zs1_4 _ _) (ok_s10 (t := 4) (i := 4) (zrow_astore (md := zmd_20) zh_20 (by decide +kernel) rfl))
theorem zr_20_10 : zOK zPre 20 10 (s_k (nat_lit 0) (nat_lit 11)) := ok_iconst (n := 0) (md := zmd_20) zh_20 (by decide +kernel) rfl (by decide +kernel)
theorem zr_20_11 : zOK zPre 20 11 (s_s1_5 (nat_lit 45067) (nat_lit 13)) := zokE (zs1_5 _ _) (ok_s10 (t := 0) (i := 5) (zrow_istore (md := zmd_20) zh_20 (by decide +kernel) rfl))
theorem zr_20_13 : zOK zPre 20 13 (s_ld_5 (nat_lit 45067) (nat_lit 15)) := zokE (zld_5 _ _) (ok_ld0 (t := 0) (i := 5) (zrow_iload (md := zmd_20) zh_20 (by decide +kernel) rfl))
theorem zr_20_15 : zOK zPre 20 15 (s_k (nat_lit 64) (nat_lit 16)) := ok_iconst (n := 4) (md := zmd_20) zh_20 (by decide +kernel) rfl (by decide +kernel)
theorem zr_20_16 : zOK zPre 20 16 (s_ic (nat_lit 3) zu_ge (nat_lit 42) (nat_lit 19)) := ok_ic_ge (off := 26) (md := zmd_20) zh_20 (by decide +kernel) (by decide +kernel) rfl
theorem zr_20_19 : zOK zPre 20 19 (s_ld_4 (nat_lit 1136) (nat_lit 21)) := zokE (zld_4 _ _) (ok_ld0 (t := 4) (i := 4) (zrow_aload (md := zmd_20) zh_20 (by decide +kernel) rfl))
theorem zr_20_21 : zOK zPre 20 21 (s_ld_5 (nat_lit 45067) (nat_lit 23)) := zokE (zld_5 _ _) (ok_ld0 (t := 0) (i := 5) (zrow_iload (md := zmd_20) zh_20 (by decide +kernel) rfl))
theorem zr_20_23 : zOK zPre 20 23 (s_ld_2 (nat_lit 18436) (nat_lit 24)) := zokE (zld_2 _ _) (ok_ld0 (t := 1) (i := 2) (zrow_lload_n (k := 2) (md := zmd_20) zh_20 (by decide +kernel) rfl rfl))
theorem zr_20_24 : zOK zPre 20 24 (s_k (nat_lit 256) (nat_lit 26)) := ok_bipush (n := 16) (md := zmd_20) zh_20 (by decide +kernel) rfl (by decide +kernel)
theorem zr_20_26 : zOK zPre 20 26 (s_ld_5 (nat_lit 45067) (nat_lit 28)) := zokE (zld_5 _ _) (ok_ld0 (t := 0) (i := 5) (zrow_iload (md := zmd_20) zh_20 (by decide +kernel) rfl))
theorem zr_20_28 : zOK zPre 20 28 (s_imul (nat_lit 29)) := ok_imul (md := zmd_20) zh_20 (by decide +kernel) rfl
theorem zr_20_29 : zOK zPre 20 29 (s_lushr (nat_lit 30)) := ok_lushr (md := zmd_20) zh_20 (by decide +kernel) rfl
theorem zr_20_30 : zOK zPre 20 30 (s_k (nat_lit 1048562) (nat_lit 33)) := ok_ldc2 (i := 20) (n := (65535 : Int64)) (md := zmd_20) zh_20 (by decide +kernel) rfl zw_7_28 (by decide +kernel)
theorem zr_20_33 : zOK zPre 20 33 (s_land (nat_lit 34)) := ok_land (md := zmd_20) zh_20 (by decide +kernel) rfl
theorem zr_20_34 : zOK zPre 20 34 (s_l2i (nat_lit 35)) := ok_l2i (md := zmd_20) zh_20 (by decide +kernel) rfl
theorem zr_20_35 : zOK zPre 20 35 (s_ast (nat_lit 20) (nat_lit 0) (nat_lit 36)) := ok_astI (Or.inl rfl) (Or.inl rfl) (zrow_iastore (md := zmd_20) zh_20 (by decide +kernel) rfl)
theorem zr_20_36 : zOK zPre 20 36 (s_inc (nat_lit 5) (nat_lit 16) (nat_lit 39)) := ok_inc (n := 1) (md := zmd_20) zh_20 (by decide +kernel) rfl (by decide +kernel)
theorem zr_20_39 : zOK zPre 20 39 (s_go (nat_lit 13)) := ok_go (off := -26) (md := zmd_20) zh_20 (by decide +kernel) (by decide +kernel)
theorem zr_20_42 : zOK zPre 20 42 (s_new (nat_lit 9) (nat_lit 2) [(nat_lit 0), (nat_lit 5)] (nat_lit 45)) := ok_new0 (fsV := zfv_X10) (by decide) zfs_X10 (zrow_new (index := 62) (C := RX10) (T := TX10) (N := 2) (ty0 := tyX10) (md := zmd_20) zh_20 (by decide +kernel) rfl rfl zu_X10 tyX10_ok zw_6_199 zw_7_29 zw_1_19 zdf_X10)
theorem zr_20_45 : zOK zPre 20 45 (s_dup (nat_lit 46)) := ok_dup (md := zmd_20) zh_20 (by decide +kernel) rfl
theorem zr_20_46 : zOK zPre 20 46 (s_ld_0 (nat_lit 18436) (nat_lit 47)) := zokE (zld_0 _ _) (ok_ld0 (t := 1) (i := 0) (zrow_lload_n (k := 0) (md := zmd_20) zh_20 (by decide +kernel) rfl rfl))
theorem zr_20_47 : zOK zPre 20 47 (s_k (nat_lit 2) (nat_lit 48)) := ok_lconst (n := 0) (md := zmd_20) zh_20 (by decide +kernel) rfl (by decide +kernel)
theorem zr_20_48 : zOK zPre 20 48 (s_lcmp (nat_lit 49)) := ok_lcmp (md := zmd_20) zh_20 (by decide +kernel) rfl
theorem zr_20_49 : zOK zPre 20 49 (s_if (nat_lit 3) zi_ge (nat_lit 56) (nat_lit 52)) := ok_if_ge (off := 7) (md := zmd_20) zh_20 (by decide +kernel) (by decide +kernel) rfl
theorem zr_20_56 : zOK zPre 20 56 (s_k (nat_lit 16) (nat_lit 57)) := ok_iconst (n := 1) (md := zmd_20) zh_20 (by decide +kernel) rfl (by decide +kernel)
theorem zr_20_57 : zOK zPre 20 57 (s_ld_4 (nat_lit 1136) (nat_lit 59)) := zokE (zld_4 _ _) (ok_ld0 (t := 4) (i := 4) (zrow_aload (md := zmd_20) zh_20 (by decide +kernel) rfl))
theorem zr_20_59 : zOK zPre 20 59 (s_call (nat_lit 99) (nat_lit 22) (nat_lit 3) (nat_lit 1) (nat_lit 1) [] (nat_lit 62)) := ok_call (md := zmd_20) zh_20 zh_22 rfl (by decide) (by decide) (Or.inl rfl) zp_22 (zrow_callS (mdc := zmd_22) (index := 14) (md := zmd_20) zh_20 (by decide +kernel) rfl rfl zc_22 zw_7_30 zw_7_31 zw_1_10 zd_22) trivial
theorem zr_20_62 : zOK zPre 20 62 (s_call (nat_lit 9) (nat_lit 23) (nat_lit 3) (nat_lit 3) (nat_lit 0) [] (nat_lit 65)) := ok_call (md := zmd_20) zh_20 zh_23 rfl (by decide) (by decide) (Or.inr (by decide)) zp_23 (zrow_callI (mdc := zmd_23) (index := 64) (md := zmd_20) zh_20 (by decide +kernel) rfl rfl rfl rfl zc_23 (by decide) zw_7_34 zw_7_35 zw_1_19 zd_23) trivial
theorem zr_20_65 : zOK zPre 20 65 (s_ret (nat_lit 1136)) := ok_ret0 (t := 4) (i := .areturn) (md := zmd_20) zh_20 rfl (by decide +kernel) ⟨Or.inl ⟨_, rfl⟩, rfl⟩
theorem zr_21_0 : zOK zPre 21 0 (s_ld_0 (nat_lit 18436) (nat_lit 1)) := zokE (zld_0 _ _) (ok_ld0 (t := 1) (i := 0) (zrow_lload_n (k := 0) (md := zmd_21) zh_21 (by decide +kernel) rfl rfl))
theorem zr_21_1 : zOK zPre 21 1 (s_k (nat_lit 2) (nat_lit 2)) := ok_lconst (n := 0) (md := zmd_21) zh_21 (by decide +kernel) rfl (by decide +kernel)
theorem zr_21_2 : zOK zPre 21 2 (s_lcmp (nat_lit 3)) := ok_lcmp (md := zmd_21) zh_21 (by decide +kernel) rfl
theorem zr_21_3 : zOK zPre 21 3 (s_if (nat_lit 3) zi_ge (nat_lit 11) (nat_lit 6)) := ok_if_ge (off := 8) (md := zmd_21) zh_21 (by decide +kernel) (by decide +kernel) rfl
theorem zr_21_11 : zOK zPre 21 11 (s_ld_0 (nat_lit 18436) (nat_lit 12)) := zokE (zld_0 _ _) (ok_ld0 (t := 1) (i := 0) (zrow_lload_n (k := 0) (md := zmd_21) zh_21 (by decide +kernel) rfl rfl))
theorem zr_21_12 : zOK zPre 21 12 (s_ret (nat_lit 18436)) := ok_ret0 (t := 1) (i := .lreturn) (ty := .long) (md := zmd_21) zh_21 rfl (by decide +kernel) ⟨rfl, rfl⟩
theorem zr_22_0 : zOK zPre 22 0 (s_ld_0 (nat_lit 1136) (nat_lit 1)) := zokE (zld_0 _ _) (ok_ld0 (t := 4) (i := 0) (zrow_aload_n (k := 0) (md := zmd_22) zh_22 (by decide +kernel) rfl rfl))
theorem zr_22_1 : zOK zPre 22 1 (s_al (nat_lit 2)) := ok_al (md := zmd_22) zh_22 (by decide +kernel) rfl
theorem zr_22_2 : zOK zPre 22 2 (s_s1_1 (nat_lit 45067) (nat_lit 3)) := zokE (zs1_1 _ _) (ok_s10 (t := 0) (i := 1) (zrow_istore_n (k := 1) (md := zmd_22) zh_22 (by decide +kernel) rfl rfl))
theorem zr_22_3 : zOK zPre 22 3 (s_ld_1 (nat_lit 45067) (nat_lit 4)) := zokE (zld_1 _ _) (ok_ld0 (t := 0) (i := 1) (zrow_iload_n (k := 1) (md := zmd_22) zh_22 (by decide +kernel) rfl rfl))
theorem zr_22_4 : zOK zPre 22 4 (s_if (nat_lit 5) zi_le (nat_lit 21) (nat_lit 7)) := ok_if_le (off := 17) (md := zmd_22) zh_22 (by decide +kernel) (by decide +kernel) rfl
theorem zr_22_7 : zOK zPre 22 7 (s_ld_0 (nat_lit 1136) (nat_lit 8)) := zokE (zld_0 _ _) (ok_ld0 (t := 4) (i := 0) (zrow_aload_n (k := 0) (md := zmd_22) zh_22 (by decide +kernel) rfl rfl))
theorem zr_22_8 : zOK zPre 22 8 (s_ld_1 (nat_lit 45067) (nat_lit 9)) := zokE (zld_1 _ _) (ok_ld0 (t := 0) (i := 1) (zrow_iload_n (k := 1) (md := zmd_22) zh_22 (by decide +kernel) rfl rfl))
theorem zr_22_9 : zOK zPre 22 9 (s_k (nat_lit 16) (nat_lit 10)) := ok_iconst (n := 1) (md := zmd_22) zh_22 (by decide +kernel) rfl (by decide +kernel)
theorem zr_22_10 : zOK zPre 22 10 (s_isub (nat_lit 11)) := ok_isub (md := zmd_22) zh_22 (by decide +kernel) rfl
theorem zr_22_11 : zOK zPre 22 11 (s_ald (nat_lit 20) (nat_lit 20) (nat_lit 12)) := ok_ald0 (by decide) (by decide) (by decide) (zrow_iaload (md := zmd_22) zh_22 (by decide +kernel) rfl)
theorem zr_22_12 : zOK zPre 22 12 (s_if (nat_lit 1) zi_ne (nat_lit 21) (nat_lit 15)) := ok_if_ne (off := 9) (md := zmd_22) zh_22 (by decide +kernel) (by decide +kernel) rfl
theorem zr_22_15 : zOK zPre 22 15 (s_inc (nat_lit 1) (nat_lit 68719476720) (nat_lit 18)) := ok_inc (n := -1) (md := zmd_22) zh_22 (by decide +kernel) rfl (by decide +kernel)
theorem zr_22_18 : zOK zPre 22 18 (s_go (nat_lit 3)) := ok_go (off := -15) (md := zmd_22) zh_22 (by decide +kernel) (by decide +kernel)
theorem zr_22_21 : zOK zPre 22 21 (s_ld_1 (nat_lit 45067) (nat_lit 22)) := zokE (zld_1 _ _) (ok_ld0 (t := 0) (i := 1) (zrow_iload_n (k := 1) (md := zmd_22) zh_22 (by decide +kernel) rfl rfl))
theorem zr_22_22 : zOK zPre 22 22 (s_ld_0 (nat_lit 1136) (nat_lit 23)) := zokE (zld_0 _ _) (ok_ld0 (t := 4) (i := 0) (zrow_aload_n (k := 0) (md := zmd_22) zh_22 (by decide +kernel) rfl rfl))
theorem zr_22_23 : zOK zPre 22 23 (s_al (nat_lit 24)) := ok_al (md := zmd_22) zh_22 (by decide +kernel) rfl
theorem zr_22_24 : zOK zPre 22 24 (s_ic (nat_lit 1) zu_ne (nat_lit 29) (nat_lit 27)) := ok_ic_ne (off := 5) (md := zmd_22) zh_22 (by decide +kernel) (by decide +kernel) rfl
theorem zr_22_27 : zOK zPre 22 27 (s_ld_0 (nat_lit 1136) (nat_lit 28)) := zokE (zld_0 _ _) (ok_ld0 (t := 4) (i := 0) (zrow_aload_n (k := 0) (md := zmd_22) zh_22 (by decide +kernel) rfl rfl))
theorem zr_22_28 : zOK zPre 22 28 (s_ret (nat_lit 1136)) := ok_ret0 (t := 4) (i := .areturn) (md := zmd_22) zh_22 rfl (by decide +kernel) ⟨Or.inr ⟨_, rfl⟩, rfl⟩
theorem zr_22_29 : zOK zPre 22 29 (s_ld_1 (nat_lit 45067) (nat_lit 30)) := zokE (zld_1 _ _) (ok_ld0 (t := 0) (i := 1) (zrow_iload_n (k := 1) (md := zmd_22) zh_22 (by decide +kernel) rfl rfl))
theorem zr_22_30 : zOK zPre 22 30 (s_na (nat_lit 20) (nat_lit 0) (nat_lit 32)) := ok_na0 (by decide) rfl (zrow_na20 (md := zmd_22) zh_22 (by decide +kernel) rfl zw_1_83)
theorem zr_22_32 : zOK zPre 22 32 (s_s1_2 (nat_lit 1136) (nat_lit 33)) := zokE (zs1_2 _ _) (ok_s10 (t := 4) (i := 2) (zrow_astore_n (k := 2) (md := zmd_22) zh_22 (by decide +kernel) rfl rfl))
theorem zr_22_33 : zOK zPre 22 33 (s_ld_0 (nat_lit 1136) (nat_lit 34)) := zokE (zld_0 _ _) (ok_ld0 (t := 4) (i := 0) (zrow_aload_n (k := 0) (md := zmd_22) zh_22 (by decide +kernel) rfl rfl))
theorem zr_22_34 : zOK zPre 22 34 (s_k (nat_lit 0) (nat_lit 35)) := ok_iconst (n := 0) (md := zmd_22) zh_22 (by decide +kernel) rfl (by decide +kernel)
theorem zr_22_35 : zOK zPre 22 35 (s_ld_2 (nat_lit 1136) (nat_lit 36)) := zokE (zld_2 _ _) (ok_ld0 (t := 4) (i := 2) (zrow_aload_n (k := 2) (md := zmd_22) zh_22 (by decide +kernel) rfl rfl))
theorem zr_22_36 : zOK zPre 22 36 (s_k (nat_lit 0) (nat_lit 37)) := ok_iconst (n := 0) (md := zmd_22) zh_22 (by decide +kernel) rfl (by decide +kernel)
theorem zr_22_37 : zOK zPre 22 37 (s_ld_1 (nat_lit 45067) (nat_lit 38)) := zokE (zld_1 _ _) (ok_ld0 (t := 0) (i := 1) (zrow_iload_n (k := 1) (md := zmd_22) zh_22 (by decide +kernel) rfl rfl))
theorem zr_22_38 : zOK zPre 22 38 (s_cp (nat_lit 41)) := ok_cp (index := 1) (md := zmd_22) zh_22 (by decide +kernel) rfl zw_7_33 zw_3_138 zw_3_137 zw_1_20
theorem zr_22_41 : zOK zPre 22 41 (s_ld_2 (nat_lit 1136) (nat_lit 42)) := zokE (zld_2 _ _) (ok_ld0 (t := 4) (i := 2) (zrow_aload_n (k := 2) (md := zmd_22) zh_22 (by decide +kernel) rfl rfl))
theorem zr_22_42 : zOK zPre 22 42 (s_ret (nat_lit 1136)) := ok_ret0 (t := 4) (i := .areturn) (md := zmd_22) zh_22 rfl (by decide +kernel) ⟨Or.inr ⟨_, rfl⟩, rfl⟩
theorem zr_23_0 : zOK zPre 23 0 (s_ld_0 (nat_lit 1136) (nat_lit 1)) := zokE (zld_0 _ _) (ok_ld0 (t := 4) (i := 0) (zrow_aload_n (k := 0) (md := zmd_23) zh_23 (by decide +kernel) rfl rfl))
theorem zr_23_1 : zOK zPre 23 1 (s_oi (nat_lit 4)) := ok_oi (index := 1) (md := zmd_23) zh_23 (by decide +kernel) rfl zw_7_37 zw_1_48 zw_oi
theorem zr_23_4 : zOK zPre 23 4 (s_ld_0 (nat_lit 1136) (nat_lit 5)) := zokE (zld_0 _ _) (ok_ld0 (t := 4) (i := 0) (zrow_aload_n (k := 0) (md := zmd_23) zh_23 (by decide +kernel) rfl rfl))
theorem zr_23_5 : zOK zPre 23 5 (s_ld_2 (nat_lit 1136) (nat_lit 6)) := zokE (zld_2 _ _) (ok_ld0 (t := 4) (i := 2) (zrow_aload_n (k := 2) (md := zmd_23) zh_23 (by decide +kernel) rfl rfl))
theorem zr_23_6 : zOK zPre 23 6 (s_al (nat_lit 7)) := ok_al (md := zmd_23) zh_23 (by decide +kernel) rfl
theorem zr_23_7 : zOK zPre 23 7 (s_if (nat_lit 1) zi_ne (nat_lit 14) (nat_lit 10)) := ok_if_ne (off := 7) (md := zmd_23) zh_23 (by decide +kernel) (by decide +kernel) rfl
theorem zr_23_10 : zOK zPre 23 10 (s_k (nat_lit 0) (nat_lit 11)) := ok_iconst (n := 0) (md := zmd_23) zh_23 (by decide +kernel) rfl (by decide +kernel)
theorem zr_23_11 : zOK zPre 23 11 (s_go (nat_lit 15)) := ok_go (off := 4) (md := zmd_23) zh_23 (by decide +kernel) (by decide +kernel)
theorem zr_23_15 : zOK zPre 23 15 (s_pf (nat_lit 9) (nat_lit 0) (nat_lit 0) (nat_lit 18)) := ok_pf0 (by decide) (zrow_pfF (ty := .int) (index := 7) (ref := "ResidueworksModel$Whole") (C := RX10) (T := TX10) (N := 2) (ty0 := tyX10) (md := zmd_23) zh_23 (by decide +kernel) rfl rfl (by decide) zu_X10 tyX10_ok nmX10 zw_7_38 (Or.inl rfl) rfl rfl rfl (by decide +kernel) zfty0)
theorem zr_23_18 : zOK zPre 23 18 (s_ld_0 (nat_lit 1136) (nat_lit 19)) := zokE (zld_0 _ _) (ok_ld0 (t := 4) (i := 0) (zrow_aload_n (k := 0) (md := zmd_23) zh_23 (by decide +kernel) rfl rfl))
theorem zr_23_19 : zOK zPre 23 19 (s_ld_2 (nat_lit 1136) (nat_lit 20)) := zokE (zld_2 _ _) (ok_ld0 (t := 4) (i := 2) (zrow_aload_n (k := 2) (md := zmd_23) zh_23 (by decide +kernel) rfl rfl))
theorem zr_23_20 : zOK zPre 23 20 (s_pf (nat_lit 9) (nat_lit 1) (nat_lit 5) (nat_lit 23)) := ok_pf0 (by decide) (zrow_pfF (ty := tyX10 1) (index := 13) (ref := "ResidueworksModel$Whole") (C := RX10) (T := TX10) (N := 2) (ty0 := tyX10) (md := zmd_23) zh_23 (by decide +kernel) rfl rfl (by decide) zu_X10 tyX10_ok nmX10 zw_7_40 (Or.inl rfl) rfl rfl rfl (by decide +kernel) zfty5a)
theorem zr_23_23 : zOK zPre 23 23 (s_rv) := ok_rv (md := zmd_23) zh_23 rfl (by decide +kernel)
theorem zr_26_0 : zOK zPre 26 0 (s_ld_1 (nat_lit 45067) (nat_lit 1)) := zokE (zld_1 _ _) (ok_ld0 (t := 0) (i := 1) (zrow_iload_n (k := 1) (md := zmd_26) zh_26 (by decide +kernel) rfl rfl))
theorem zr_26_1 : zOK zPre 26 1 (s_if (nat_lit 2) zi_lt (nat_lit 13) (nat_lit 4)) := ok_if_lt (off := 12) (md := zmd_26) zh_26 (by decide +kernel) (by decide +kernel) rfl
theorem zr_26_4 : zOK zPre 26 4 (s_ld_1 (nat_lit 45067) (nat_lit 5)) := zokE (zld_1 _ _) (ok_ld0 (t := 0) (i := 1) (zrow_iload_n (k := 1) (md := zmd_26) zh_26 (by decide +kernel) rfl rfl))
theorem zr_26_5 : zOK zPre 26 5 (s_ld_0 (nat_lit 1136) (nat_lit 6)) := zokE (zld_0 _ _) (ok_ld0 (t := 4) (i := 0) (zrow_aload_n (k := 0) (md := zmd_26) zh_26 (by decide +kernel) rfl rfl))
theorem zr_26_6 : zOK zPre 26 6 (s_gf (nat_lit 8) (nat_lit 0) (nat_lit 9)) := ok_gf0 (by decide) (zrow_gf (index := 11) (ref := "Residueworks") (C := RX9) (T := TX9) (N := 10) (md := zmd_26) zh_26 (by decide +kernel) rfl rfl (by decide) zu_X9 zw_2_125 (Or.inl rfl))
theorem zr_26_9 : zOK zPre 26 9 (s_al (nat_lit 10)) := ok_al (md := zmd_26) zh_26 (by decide +kernel) rfl
theorem zr_26_10 : zOK zPre 26 10 (s_ic (nat_lit 2) zu_lt (nat_lit 24) (nat_lit 13)) := ok_ic_lt (off := 14) (md := zmd_26) zh_26 (by decide +kernel) (by decide +kernel) rfl
theorem zr_26_24 : zOK zPre 26 24 (s_ld_0 (nat_lit 1136) (nat_lit 25)) := zokE (zld_0 _ _) (ok_ld0 (t := 4) (i := 0) (zrow_aload_n (k := 0) (md := zmd_26) zh_26 (by decide +kernel) rfl rfl))
theorem zr_26_25 : zOK zPre 26 25 (s_gf (nat_lit 8) (nat_lit 0) (nat_lit 28)) := ok_gf0 (by decide) (zrow_gf (index := 11) (ref := "Residueworks") (C := RX9) (T := TX9) (N := 10) (md := zmd_26) zh_26 (by decide +kernel) rfl rfl (by decide) zu_X9 zw_2_125 (Or.inl rfl))
theorem zr_26_28 : zOK zPre 26 28 (s_ld_1 (nat_lit 45067) (nat_lit 29)) := zokE (zld_1 _ _) (ok_ld0 (t := 0) (i := 1) (zrow_iload_n (k := 1) (md := zmd_26) zh_26 (by decide +kernel) rfl rfl))
theorem zr_26_29 : zOK zPre 26 29 (s_ald (nat_lit 25) (nat_lit 29) (nat_lit 30)) := ok_ald0 (by decide) (by decide) (by decide) (zrow_aaload (md := zmd_26) zh_26 (by decide +kernel) rfl)
theorem zr_26_30 : zOK zPre 26 30 (s_ret (nat_lit 1136)) := ok_ret0 (t := 4) (i := .areturn) (md := zmd_26) zh_26 rfl (by decide +kernel) ⟨Or.inl ⟨_, rfl⟩, rfl⟩
theorem zr_32_0 : zOK zPre 32 0 (s_k (nat_lit 16) (nat_lit 1)) := ok_iconst (n := 1) (md := zmd_32) zh_32 (by decide +kernel) rfl (by decide +kernel)
theorem zr_32_1 : zOK zPre 32 1 (s_s1_1 (nat_lit 45067) (nat_lit 2)) := zokE (zs1_1 _ _) (ok_s10 (t := 0) (i := 1) (zrow_istore_n (k := 1) (md := zmd_32) zh_32 (by decide +kernel) rfl rfl))
theorem zr_32_2 : zOK zPre 32 2 (s_ld_0 (nat_lit 1136) (nat_lit 3)) := zokE (zld_0 _ _) (ok_ld0 (t := 4) (i := 0) (zrow_aload_n (k := 0) (md := zmd_32) zh_32 (by decide +kernel) rfl rfl))
theorem zr_32_3 : zOK zPre 32 3 (s_s1_2 (nat_lit 1136) (nat_lit 4)) := zokE (zs1_2 _ _) (ok_s10 (t := 4) (i := 2) (zrow_astore_n (k := 2) (md := zmd_32) zh_32 (by decide +kernel) rfl rfl))
theorem zr_32_4 : zOK zPre 32 4 (s_ld_2 (nat_lit 1136) (nat_lit 5)) := zokE (zld_2 _ _) (ok_ld0 (t := 4) (i := 2) (zrow_aload_n (k := 2) (md := zmd_32) zh_32 (by decide +kernel) rfl rfl))
theorem zr_32_5 : zOK zPre 32 5 (s_al (nat_lit 6)) := ok_al (md := zmd_32) zh_32 (by decide +kernel) rfl
theorem zr_32_6 : zOK zPre 32 6 (s_s1_3 (nat_lit 45067) (nat_lit 7)) := zokE (zs1_3 _ _) (ok_s10 (t := 0) (i := 3) (zrow_istore_n (k := 3) (md := zmd_32) zh_32 (by decide +kernel) rfl rfl))
theorem zr_32_7 : zOK zPre 32 7 (s_k (nat_lit 0) (nat_lit 8)) := ok_iconst (n := 0) (md := zmd_32) zh_32 (by decide +kernel) rfl (by decide +kernel)
theorem zr_32_8 : zOK zPre 32 8 (s_s1_4 (nat_lit 45067) (nat_lit 10)) := zokE (zs1_4 _ _) (ok_s10 (t := 0) (i := 4) (zrow_istore (md := zmd_32) zh_32 (by decide +kernel) rfl))
theorem zr_32_10 : zOK zPre 32 10 (s_ld_4 (nat_lit 45067) (nat_lit 12)) := zokE (zld_4 _ _) (ok_ld0 (t := 0) (i := 4) (zrow_iload (md := zmd_32) zh_32 (by decide +kernel) rfl))
theorem zr_32_12 : zOK zPre 32 12 (s_ld_3 (nat_lit 45067) (nat_lit 13)) := zokE (zld_3 _ _) (ok_ld0 (t := 0) (i := 3) (zrow_iload_n (k := 3) (md := zmd_32) zh_32 (by decide +kernel) rfl rfl))
theorem zr_32_13 : zOK zPre 32 13 (s_ic (nat_lit 3) zu_ge (nat_lit 41) (nat_lit 16)) := ok_ic_ge (off := 28) (md := zmd_32) zh_32 (by decide +kernel) (by decide +kernel) rfl
theorem zr_32_16 : zOK zPre 32 16 (s_ld_2 (nat_lit 1136) (nat_lit 17)) := zokE (zld_2 _ _) (ok_ld0 (t := 4) (i := 2) (zrow_aload_n (k := 2) (md := zmd_32) zh_32 (by decide +kernel) rfl rfl))
theorem zr_32_17 : zOK zPre 32 17 (s_ld_4 (nat_lit 45067) (nat_lit 19)) := zokE (zld_4 _ _) (ok_ld0 (t := 0) (i := 4) (zrow_iload (md := zmd_32) zh_32 (by decide +kernel) rfl))
theorem zr_32_19 : zOK zPre 32 19 (s_ald (nat_lit 20) (nat_lit 20) (nat_lit 20)) := ok_ald0 (by decide) (by decide) (by decide) (zrow_iaload (md := zmd_32) zh_32 (by decide +kernel) rfl)
theorem zr_32_20 : zOK zPre 32 20 (s_s1_5 (nat_lit 45067) (nat_lit 22)) := zokE (zs1_5 _ _) (ok_s10 (t := 0) (i := 5) (zrow_istore (md := zmd_32) zh_32 (by decide +kernel) rfl))
theorem zr_32_22 : zOK zPre 32 22 (s_ld_1 (nat_lit 45067) (nat_lit 23)) := zokE (zld_1 _ _) (ok_ld0 (t := 0) (i := 1) (zrow_iload_n (k := 1) (md := zmd_32) zh_32 (by decide +kernel) rfl rfl))
theorem zr_32_23 : zOK zPre 32 23 (s_ld_5 (nat_lit 45067) (nat_lit 25)) := zokE (zld_5 _ _) (ok_ld0 (t := 0) (i := 5) (zrow_iload (md := zmd_32) zh_32 (by decide +kernel) rfl))
theorem zr_32_25 : zOK zPre 32 25 (s_i2l (nat_lit 26)) := ok_i2l (md := zmd_32) zh_32 (by decide +kernel) rfl
theorem zr_32_26 : zOK zPre 32 26 (s_k (nat_lit 2) (nat_lit 27)) := ok_lconst (n := 0) (md := zmd_32) zh_32 (by decide +kernel) rfl (by decide +kernel)
theorem zr_32_27 : zOK zPre 32 27 (s_k (nat_lit 114) (nat_lit 30)) := ok_ldc2 (i := 170) (n := (7 : Int64)) (md := zmd_32) zh_32 (by decide +kernel) rfl zw_7_77 (by decide +kernel)
theorem zr_32_30 : zOK zPre 32 30 (s_call (nat_lit 99) (nat_lit 33) (nat_lit 6) (nat_lit 3) (nat_lit 1) [] (nat_lit 33)) := ok_call (md := zmd_32) zh_32 zh_33 rfl (by decide) (by decide) (Or.inl rfl) zp_33 (zrow_callS (mdc := zmd_33) (index := 172) (md := zmd_32) zh_32 (by decide +kernel) rfl rfl zc_33 zw_7_78 zw_7_79 zw_1_10 zd_33) trivial
theorem zr_32_33 : zOK zPre 32 33 (s_iand (nat_lit 34)) := ok_iand (md := zmd_32) zh_32 (by decide +kernel) rfl
theorem zr_32_34 : zOK zPre 32 34 (s_s1_1 (nat_lit 45067) (nat_lit 35)) := zokE (zs1_1 _ _) (ok_s10 (t := 0) (i := 1) (zrow_istore_n (k := 1) (md := zmd_32) zh_32 (by decide +kernel) rfl rfl))
theorem zr_32_35 : zOK zPre 32 35 (s_inc (nat_lit 4) (nat_lit 16) (nat_lit 38)) := ok_inc (n := 1) (md := zmd_32) zh_32 (by decide +kernel) rfl (by decide +kernel)
theorem zr_32_38 : zOK zPre 32 38 (s_go (nat_lit 10)) := ok_go (off := -28) (md := zmd_32) zh_32 (by decide +kernel) (by decide +kernel)
theorem zr_32_41 : zOK zPre 32 41 (s_ld_1 (nat_lit 45067) (nat_lit 42)) := zokE (zld_1 _ _) (ok_ld0 (t := 0) (i := 1) (zrow_iload_n (k := 1) (md := zmd_32) zh_32 (by decide +kernel) rfl rfl))
theorem zr_32_42 : zOK zPre 32 42 (s_rz (nat_lit 1)) := ok_rz (ft := 1) (Or.inl rfl) (md := zmd_32) zh_32 rfl (by decide +kernel)
theorem zr_33_0 : zOK zPre 33 0 (s_ld_0 (nat_lit 18436) (nat_lit 1)) := zokE (zld_0 _ _) (ok_ld0 (t := 1) (i := 0) (zrow_lload_n (k := 0) (md := zmd_33) zh_33 (by decide +kernel) rfl rfl))
theorem zr_33_1 : zOK zPre 33 1 (s_ld_2 (nat_lit 18436) (nat_lit 2)) := zokE (zld_2 _ _) (ok_ld0 (t := 1) (i := 2) (zrow_lload_n (k := 2) (md := zmd_33) zh_33 (by decide +kernel) rfl rfl))
theorem zr_33_2 : zOK zPre 33 2 (s_lcmp (nat_lit 3)) := ok_lcmp (md := zmd_33) zh_33 (by decide +kernel) rfl
theorem zr_33_3 : zOK zPre 33 3 (s_if (nat_lit 2) zi_lt (nat_lit 17) (nat_lit 6)) := ok_if_lt (off := 14) (md := zmd_33) zh_33 (by decide +kernel) (by decide +kernel) rfl
theorem zr_33_6 : zOK zPre 33 6 (s_ld_0 (nat_lit 18436) (nat_lit 7)) := zokE (zld_0 _ _) (ok_ld0 (t := 1) (i := 0) (zrow_lload_n (k := 0) (md := zmd_33) zh_33 (by decide +kernel) rfl rfl))
theorem zr_33_7 : zOK zPre 33 7 (s_ld_4 (nat_lit 18436) (nat_lit 9)) := zokE (zld_4 _ _) (ok_ld0 (t := 1) (i := 4) (zrow_lload (md := zmd_33) zh_33 (by decide +kernel) rfl))
theorem zr_33_9 : zOK zPre 33 9 (s_lcmp (nat_lit 10)) := ok_lcmp (md := zmd_33) zh_33 (by decide +kernel) rfl
theorem zr_33_10 : zOK zPre 33 10 (s_if (nat_lit 4) zi_gt (nat_lit 17) (nat_lit 13)) := ok_if_gt (off := 7) (md := zmd_33) zh_33 (by decide +kernel) (by decide +kernel) rfl
theorem zr_33_13 : zOK zPre 33 13 (s_k (nat_lit 16) (nat_lit 14)) := ok_iconst (n := 1) (md := zmd_33) zh_33 (by decide +kernel) rfl (by decide +kernel)
theorem zr_33_14 : zOK zPre 33 14 (s_go (nat_lit 18)) := ok_go (off := 4) (md := zmd_33) zh_33 (by decide +kernel) (by decide +kernel)
theorem zr_33_18 : zOK zPre 33 18 (s_rz (nat_lit 1)) := ok_rz (ft := 1) (Or.inl rfl) (md := zmd_33) zh_33 rfl (by decide +kernel)
theorem zr_34_0 : zOK zPre 34 0 (s_ld_0 (nat_lit 1136) (nat_lit 1)) := zokE (zld_0 _ _) (ok_ld0 (t := 4) (i := 0) (zrow_aload_n (k := 0) (md := zmd_34) zh_34 (by decide +kernel) rfl rfl))
theorem zr_34_1 : zOK zPre 34 1 (s_ld_1 (nat_lit 45067) (nat_lit 2)) := zokE (zld_1 _ _) (ok_ld0 (t := 0) (i := 1) (zrow_iload_n (k := 1) (md := zmd_34) zh_34 (by decide +kernel) rfl rfl))
theorem zr_34_2 : zOK zPre 34 2 (s_if (nat_lit 0) zi_eq (nat_lit 9) (nat_lit 5)) := ok_if_eq (off := 7) (md := zmd_34) zh_34 (by decide +kernel) (by decide +kernel) rfl
theorem zr_34_5 : zOK zPre 34 5 (s_k (nat_lit 0) (nat_lit 6)) := ok_iconst (n := 0) (md := zmd_34) zh_34 (by decide +kernel) rfl (by decide +kernel)
theorem zr_34_6 : zOK zPre 34 6 (s_go (nat_lit 10)) := ok_go (off := 4) (md := zmd_34) zh_34 (by decide +kernel) (by decide +kernel)
theorem zr_34_10 : zOK zPre 34 10 (s_pf (nat_lit 10) (nat_lit 5) (nat_lit 0) (nat_lit 13)) := ok_pf0 (by decide) (zrow_pf (ty := .int) (index := 167) (ref := "ResidueworksModel") (C := RX11) (T := TX11) (N := 6) (ty0 := tyX11) (md := zmd_34) zh_34 (by decide +kernel) rfl rfl (by decide) zu_X11 tyX11_ok nmX11 zw_7_52 (Or.inl rfl) rfl (by decide +kernel) zfty0)
theorem zr_34_13 : zOK zPre 34 13 (s_ld_1 (nat_lit 45067) (nat_lit 14)) := zokE (zld_1 _ _) (ok_ld0 (t := 0) (i := 1) (zrow_iload_n (k := 1) (md := zmd_34) zh_34 (by decide +kernel) rfl rfl))
theorem zr_34_14 : zOK zPre 34 14 (s_if (nat_lit 1) zi_ne (nat_lit 21) (nat_lit 17)) := ok_if_ne (off := 7) (md := zmd_34) zh_34 (by decide +kernel) (by decide +kernel) rfl
theorem zr_34_21 : zOK zPre 34 21 (s_k (nat_lit 0) (nat_lit 22)) := ok_iconst (n := 0) (md := zmd_34) zh_34 (by decide +kernel) rfl (by decide +kernel)
theorem zr_34_22 : zOK zPre 34 22 (s_rz (nat_lit 1)) := ok_rz (ft := 1) (Or.inl rfl) (md := zmd_34) zh_34 rfl (by decide +kernel)
theorem zr_49_0 : zOK zPre 49 0 (s_ld_1 (nat_lit 1136) (nat_lit 1)) := zokE (zld_1 _ _) (ok_ld0 (t := 4) (i := 1) (zrow_aload_n (k := 1) (md := zmd_49) zh_49 (by decide +kernel) rfl rfl))
theorem zr_49_1 : zOK zPre 49 1 (s_gf (nat_lit 7) (nat_lit 0) (nat_lit 4)) := ok_gf0 (by decide) (zrow_gf (index := 9) (ref := "Residueworks$Whole") (C := RX8) (T := TX8) (N := 3) (md := zmd_49) zh_49 (by decide +kernel) rfl rfl (by decide) zu_X8 zw_1_64 (Or.inl rfl))
theorem zr_49_4 : zOK zPre 49 4 (s_k (nat_lit 0) (nat_lit 5)) := ok_iconst (n := 0) (md := zmd_49) zh_49 (by decide +kernel) rfl (by decide +kernel)
theorem zr_49_5 : zOK zPre 49 5 (s_ld_0 (nat_lit 1136) (nat_lit 6)) := zokE (zld_0 _ _) (ok_ld0 (t := 4) (i := 0) (zrow_aload_n (k := 0) (md := zmd_49) zh_49 (by decide +kernel) rfl rfl))
theorem zr_49_6 : zOK zPre 49 6 (s_gf (nat_lit 7) (nat_lit 0) (nat_lit 9)) := ok_gf0 (by decide) (zrow_gf (index := 9) (ref := "Residueworks$Whole") (C := RX8) (T := TX8) (N := 3) (md := zmd_49) zh_49 (by decide +kernel) rfl rfl (by decide) zu_X8 zw_1_64 (Or.inl rfl))
theorem zr_49_9 : zOK zPre 49 9 (s_k (nat_lit 0) (nat_lit 10)) := ok_iconst (n := 0) (md := zmd_49) zh_49 (by decide +kernel) rfl (by decide +kernel)
theorem zr_49_10 : zOK zPre 49 10 (s_k (nat_lit 672) (nat_lit 12)) := ok_bipush (n := 42) (md := zmd_49) zh_49 (by decide +kernel) rfl (by decide +kernel)
theorem zr_49_12 : zOK zPre 49 12 (s_cp (nat_lit 15)) := ok_cp (index := 20) (md := zmd_49) zh_49 (by decide +kernel) rfl zw_3_136 zw_3_138 zw_3_137 zw_1_20
theorem zr_49_15 : zOK zPre 49 15 (s_ld_0 (nat_lit 1136) (nat_lit 16)) := zokE (zld_0 _ _) (ok_ld0 (t := 4) (i := 0) (zrow_aload_n (k := 0) (md := zmd_49) zh_49 (by decide +kernel) rfl rfl))
theorem zr_49_16 : zOK zPre 49 16 (s_ld_1 (nat_lit 1136) (nat_lit 17)) := zokE (zld_1 _ _) (ok_ld0 (t := 4) (i := 1) (zrow_aload_n (k := 1) (md := zmd_49) zh_49 (by decide +kernel) rfl rfl))
theorem zr_49_17 : zOK zPre 49 17 (s_gf (nat_lit 7) (nat_lit 1) (nat_lit 20)) := ok_gf0 (by decide) (zrow_gf (index := 13) (ref := "Residueworks$Whole") (C := RX8) (T := TX8) (N := 3) (md := zmd_49) zh_49 (by decide +kernel) rfl rfl (by decide) zu_X8 zw_1_66 (Or.inl rfl))
theorem zr_49_20 : zOK zPre 49 20 (s_pf (nat_lit 7) (nat_lit 1) (nat_lit 0) (nat_lit 23)) := ok_pf0 (by decide) (zrow_pf (ty := .int) (index := 13) (ref := "Residueworks$Whole") (C := RX8) (T := TX8) (N := 3) (ty0 := tyX8) (md := zmd_49) zh_49 (by decide +kernel) rfl rfl (by decide) zu_X8 tyX8_ok nmX8 zw_1_66 (Or.inl rfl) rfl (by decide +kernel) zfty0)
theorem zr_49_23 : zOK zPre 49 23 (s_ld_0 (nat_lit 1136) (nat_lit 24)) := zokE (zld_0 _ _) (ok_ld0 (t := 4) (i := 0) (zrow_aload_n (k := 0) (md := zmd_49) zh_49 (by decide +kernel) rfl rfl))
theorem zr_49_24 : zOK zPre 49 24 (s_ld_1 (nat_lit 1136) (nat_lit 25)) := zokE (zld_1 _ _) (ok_ld0 (t := 4) (i := 1) (zrow_aload_n (k := 1) (md := zmd_49) zh_49 (by decide +kernel) rfl rfl))
theorem zr_49_25 : zOK zPre 49 25 (s_gf (nat_lit 7) (nat_lit 2) (nat_lit 28)) := ok_gf0 (by decide) (zrow_gf (index := 17) (ref := "Residueworks$Whole") (C := RX8) (T := TX8) (N := 3) (md := zmd_49) zh_49 (by decide +kernel) rfl rfl (by decide) zu_X8 zw_1_69 (Or.inl rfl))
theorem zr_49_28 : zOK zPre 49 28 (s_pf (nat_lit 7) (nat_lit 2) (nat_lit 0) (nat_lit 31)) := ok_pf0 (by decide) (zrow_pf (ty := .int) (index := 17) (ref := "Residueworks$Whole") (C := RX8) (T := TX8) (N := 3) (ty0 := tyX8) (md := zmd_49) zh_49 (by decide +kernel) rfl rfl (by decide) zu_X8 tyX8_ok nmX8 zw_1_69 (Or.inl rfl) rfl (by decide +kernel) zfty0)
theorem zr_49_31 : zOK zPre 49 31 (s_rv) := ok_rv (md := zmd_49) zh_49 rfl (by decide +kernel)
theorem zr_61_0 : zOK zPre 61 0 (s_ld_1 (nat_lit 45067) (nat_lit 1)) := zokE (zld_1 _ _) (ok_ld0 (t := 0) (i := 1) (zrow_iload_n (k := 1) (md := zmd_61) zh_61 (by decide +kernel) rfl rfl))
theorem zr_61_1 : zOK zPre 61 1 (s_ld_2 (nat_lit 45067) (nat_lit 2)) := zokE (zld_2 _ _) (ok_ld0 (t := 0) (i := 2) (zrow_iload_n (k := 2) (md := zmd_61) zh_61 (by decide +kernel) rfl rfl))
theorem zr_61_2 : zOK zPre 61 2 (s_ic (nat_lit 2) zu_lt (nat_lit 10) (nat_lit 5)) := ok_ic_lt (off := 8) (md := zmd_61) zh_61 (by decide +kernel) (by decide +kernel) rfl
theorem zr_61_5 : zOK zPre 61 5 (s_ld_1 (nat_lit 45067) (nat_lit 6)) := zokE (zld_1 _ _) (ok_ld0 (t := 0) (i := 1) (zrow_iload_n (k := 1) (md := zmd_61) zh_61 (by decide +kernel) rfl rfl))
theorem zr_61_6 : zOK zPre 61 6 (s_ld_3 (nat_lit 45067) (nat_lit 7)) := zokE (zld_3 _ _) (ok_ld0 (t := 0) (i := 3) (zrow_iload_n (k := 3) (md := zmd_61) zh_61 (by decide +kernel) rfl rfl))
theorem zr_61_7 : zOK zPre 61 7 (s_ic (nat_lit 5) zu_le (nat_lit 21) (nat_lit 10)) := ok_ic_le (off := 14) (md := zmd_61) zh_61 (by decide +kernel) (by decide +kernel) rfl
theorem zr_61_21 : zOK zPre 61 21 (s_rv) := ok_rv (md := zmd_61) zh_61 rfl (by decide +kernel)
theorem zr_104_0 : zOK zPre 104 0 (s_ld_0 (nat_lit 1136) (nat_lit 1)) := zokE (zld_0 _ _) (ok_ld0 (t := 4) (i := 0) (zrow_aload_n (k := 0) (md := zmd_104) zh_104 (by decide +kernel) rfl rfl))
theorem zr_104_1 : zOK zPre 104 1 (s_ld_1 (nat_lit 1136) (nat_lit 2)) := zokE (zld_1 _ _) (ok_ld0 (t := 4) (i := 1) (zrow_aload_n (k := 1) (md := zmd_104) zh_104 (by decide +kernel) rfl rfl))
theorem zr_104_2 : zOK zPre 104 2 (s_call (nat_lit 7) (nat_lit 49) (nat_lit 2) (nat_lit 2) (nat_lit 0) [] (nat_lit 5)) := ok_call (md := zmd_104) zh_104 zh_49 rfl (by decide) (by decide) (Or.inr (by decide)) zp_49 (zrow_callV (mdc := zmd_49) (index := 26) (md := zmd_104) zh_104 (by decide +kernel) rfl rfl zc_49 rfl (by decide) zw_4_67 zw_3_133 zw_3_134 zw_1_3 zd_49) trivial
theorem zr_104_5 : zOK zPre 104 5 (s_ld_0 (nat_lit 1136) (nat_lit 6)) := zokE (zld_0 _ _) (ok_ld0 (t := 4) (i := 0) (zrow_aload_n (k := 0) (md := zmd_104) zh_104 (by decide +kernel) rfl rfl))
theorem zr_104_6 : zOK zPre 104 6 (s_ld_0 (nat_lit 1136) (nat_lit 7)) := zokE (zld_0 _ _) (ok_ld0 (t := 4) (i := 0) (zrow_aload_n (k := 0) (md := zmd_104) zh_104 (by decide +kernel) rfl rfl))
theorem zr_104_7 : zOK zPre 104 7 (s_gf (nat_lit 7) (nat_lit 1) (nat_lit 10)) := ok_gf0 (by decide) (zrow_gf (index := 13) (ref := "Residueworks$Whole") (C := RX8) (T := TX8) (N := 3) (md := zmd_104) zh_104 (by decide +kernel) rfl rfl (by decide) zu_X8 zw_1_66 (Or.inl rfl))
theorem zr_104_10 : zOK zPre 104 10 (s_if (nat_lit 1) zi_ne (nat_lit 17) (nat_lit 13)) := ok_if_ne (off := 7) (md := zmd_104) zh_104 (by decide +kernel) (by decide +kernel) rfl
theorem zr_104_13 : zOK zPre 104 13 (s_k (nat_lit 0) (nat_lit 14)) := ok_iconst (n := 0) (md := zmd_104) zh_104 (by decide +kernel) rfl (by decide +kernel)
theorem zr_104_14 : zOK zPre 104 14 (s_go (nat_lit 18)) := ok_go (off := 4) (md := zmd_104) zh_104 (by decide +kernel) (by decide +kernel)
theorem zr_104_18 : zOK zPre 104 18 (s_pf (nat_lit 7) (nat_lit 2) (nat_lit 0) (nat_lit 21)) := ok_pf0 (by decide) (zrow_pf (ty := .int) (index := 17) (ref := "Residueworks$Whole") (C := RX8) (T := TX8) (N := 3) (ty0 := tyX8) (md := zmd_104) zh_104 (by decide +kernel) rfl rfl (by decide) zu_X8 tyX8_ok nmX8 zw_1_69 (Or.inl rfl) rfl (by decide +kernel) zfty0)
theorem zr_104_21 : zOK zPre 104 21 (s_rv) := ok_rv (md := zmd_104) zh_104 rfl (by decide +kernel)
theorem zr_149_0 : zOK zPre 149 0 (s_ld_0 (nat_lit 1136) (nat_lit 1)) := zokE (zld_0 _ _) (ok_ld0 (t := 4) (i := 0) (zrow_aload_n (k := 0) (md := zmd_149) zh_149 (by decide +kernel) rfl rfl))
theorem zr_149_1 : zOK zPre 149 1 (s_gf (nat_lit 5) (nat_lit 2) (nat_lit 4)) := ok_gf0 (by decide) (zrow_gf (index := 20) (ref := "Residueworks$Text") (C := RX6) (T := TX6) (N := 3) (md := zmd_149) zh_149 (by decide +kernel) rfl rfl (by decide) zu_X6 zw_1_86 (Or.inl rfl))
theorem zr_149_4 : zOK zPre 149 4 (s_if (nat_lit 2) zi_lt (nat_lit 39) (nat_lit 7)) := ok_if_lt (off := 35) (md := zmd_149) zh_149 (by decide +kernel) (by decide +kernel) rfl
theorem zr_149_7 : zOK zPre 149 7 (s_ld_0 (nat_lit 1136) (nat_lit 8)) := zokE (zld_0 _ _) (ok_ld0 (t := 4) (i := 0) (zrow_aload_n (k := 0) (md := zmd_149) zh_149 (by decide +kernel) rfl rfl))
theorem zr_149_8 : zOK zPre 149 8 (s_gf (nat_lit 5) (nat_lit 2) (nat_lit 11)) := ok_gf0 (by decide) (zrow_gf (index := 20) (ref := "Residueworks$Text") (C := RX6) (T := TX6) (N := 3) (md := zmd_149) zh_149 (by decide +kernel) rfl rfl (by decide) zu_X6 zw_1_86 (Or.inl rfl))
theorem zr_149_11 : zOK zPre 149 11 (s_ld_0 (nat_lit 1136) (nat_lit 12)) := zokE (zld_0 _ _) (ok_ld0 (t := 4) (i := 0) (zrow_aload_n (k := 0) (md := zmd_149) zh_149 (by decide +kernel) rfl rfl))
theorem zr_149_12 : zOK zPre 149 12 (s_gf (nat_lit 5) (nat_lit 0) (nat_lit 15)) := ok_gf0 (by decide) (zrow_gf (index := 9) (ref := "Residueworks$Text") (C := RX6) (T := TX6) (N := 3) (md := zmd_149) zh_149 (by decide +kernel) rfl rfl (by decide) zu_X6 zw_1_84 (Or.inl rfl))
theorem zr_149_15 : zOK zPre 149 15 (s_al (nat_lit 16)) := ok_al (md := zmd_149) zh_149 (by decide +kernel) rfl
theorem zr_149_16 : zOK zPre 149 16 (s_ic (nat_lit 3) zu_ge (nat_lit 39) (nat_lit 19)) := ok_ic_ge (off := 23) (md := zmd_149) zh_149 (by decide +kernel) (by decide +kernel) rfl
theorem zr_149_19 : zOK zPre 149 19 (s_ld_0 (nat_lit 1136) (nat_lit 20)) := zokE (zld_0 _ _) (ok_ld0 (t := 4) (i := 0) (zrow_aload_n (k := 0) (md := zmd_149) zh_149 (by decide +kernel) rfl rfl))
theorem zr_149_20 : zOK zPre 149 20 (s_gf (nat_lit 5) (nat_lit 0) (nat_lit 23)) := ok_gf0 (by decide) (zrow_gf (index := 9) (ref := "Residueworks$Text") (C := RX6) (T := TX6) (N := 3) (md := zmd_149) zh_149 (by decide +kernel) rfl rfl (by decide) zu_X6 zw_1_84 (Or.inl rfl))
theorem zr_149_23 : zOK zPre 149 23 (s_ld_0 (nat_lit 1136) (nat_lit 24)) := zokE (zld_0 _ _) (ok_ld0 (t := 4) (i := 0) (zrow_aload_n (k := 0) (md := zmd_149) zh_149 (by decide +kernel) rfl rfl))
theorem zr_149_24 : zOK zPre 149 24 (s_gf (nat_lit 5) (nat_lit 2) (nat_lit 27)) := ok_gf0 (by decide) (zrow_gf (index := 20) (ref := "Residueworks$Text") (C := RX6) (T := TX6) (N := 3) (md := zmd_149) zh_149 (by decide +kernel) rfl rfl (by decide) zu_X6 zw_1_86 (Or.inl rfl))
theorem zr_149_27 : zOK zPre 149 27 (s_ld_1 (nat_lit 45067) (nat_lit 28)) := zokE (zld_1 _ _) (ok_ld0 (t := 0) (i := 1) (zrow_iload_n (k := 1) (md := zmd_149) zh_149 (by decide +kernel) rfl rfl))
theorem zr_149_28 : zOK zPre 149 28 (s_ast (nat_lit 23) (nat_lit 3) (nat_lit 29)) := ok_astI (Or.inr (Or.inr rfl)) (Or.inr (Or.inr rfl)) (zrow_castore (md := zmd_149) zh_149 (by decide +kernel) rfl)
theorem zr_149_29 : zOK zPre 149 29 (s_ld_0 (nat_lit 1136) (nat_lit 30)) := zokE (zld_0 _ _) (ok_ld0 (t := 4) (i := 0) (zrow_aload_n (k := 0) (md := zmd_149) zh_149 (by decide +kernel) rfl rfl))
theorem zr_149_30 : zOK zPre 149 30 (s_dup (nat_lit 31)) := ok_dup (md := zmd_149) zh_149 (by decide +kernel) rfl
theorem zr_149_31 : zOK zPre 149 31 (s_gf (nat_lit 5) (nat_lit 2) (nat_lit 34)) := ok_gf0 (by decide) (zrow_gf (index := 20) (ref := "Residueworks$Text") (C := RX6) (T := TX6) (N := 3) (md := zmd_149) zh_149 (by decide +kernel) rfl rfl (by decide) zu_X6 zw_1_86 (Or.inl rfl))
theorem zr_149_34 : zOK zPre 149 34 (s_k (nat_lit 16) (nat_lit 35)) := ok_iconst (n := 1) (md := zmd_149) zh_149 (by decide +kernel) rfl (by decide +kernel)
theorem zr_149_35 : zOK zPre 149 35 (s_iadd (nat_lit 36)) := ok_iadd (md := zmd_149) zh_149 (by decide +kernel) rfl
theorem zr_149_36 : zOK zPre 149 36 (s_pf (nat_lit 5) (nat_lit 2) (nat_lit 0) (nat_lit 39)) := ok_pf0 (by decide) (zrow_pf (ty := .int) (index := 20) (ref := "Residueworks$Text") (C := RX6) (T := TX6) (N := 3) (ty0 := tyX6) (md := zmd_149) zh_149 (by decide +kernel) rfl rfl (by decide) zu_X6 tyX6_ok nmX6 zw_1_86 (Or.inl rfl) rfl (by decide +kernel) zfty0)
theorem zr_149_39 : zOK zPre 149 39 (s_rv) := ok_rv (md := zmd_149) zh_149 rfl (by decide +kernel)
theorem zr_169_0 : zOK zPre 169 0 (s_ld_3 (nat_lit 1136) (nat_lit 1)) := zokE (zld_3 _ _) (ok_ld0 (t := 4) (i := 3) (zrow_aload_n (k := 3) (md := zmd_169) zh_169 (by decide +kernel) rfl rfl))
theorem zr_169_1 : zOK zPre 169 1 (s_k (nat_lit 0) (nat_lit 2)) := ok_iconst (n := 0) (md := zmd_169) zh_169 (by decide +kernel) rfl (by decide +kernel)
theorem zr_169_2 : zOK zPre 169 2 (s_ld_0 (nat_lit 1136) (nat_lit 3)) := zokE (zld_0 _ _) (ok_ld0 (t := 4) (i := 0) (zrow_aload_n (k := 0) (md := zmd_169) zh_169 (by decide +kernel) rfl rfl))
theorem zr_169_3 : zOK zPre 169 3 (s_ld_1 (nat_lit 45067) (nat_lit 4)) := zokE (zld_1 _ _) (ok_ld0 (t := 0) (i := 1) (zrow_iload_n (k := 1) (md := zmd_169) zh_169 (by decide +kernel) rfl rfl))
theorem zr_169_4 : zOK zPre 169 4 (s_ld_2 (nat_lit 45067) (nat_lit 5)) := zokE (zld_2 _ _) (ok_ld0 (t := 0) (i := 2) (zrow_iload_n (k := 2) (md := zmd_169) zh_169 (by decide +kernel) rfl rfl))
theorem zr_169_5 : zOK zPre 169 5 (s_call (nat_lit 8) (nat_lit 170) (nat_lit 4) (nat_lit 3) (nat_lit 1) [((nat_lit 0), (nat_lit 4), (nat_lit 15)), ((nat_lit 1), (nat_lit 4), (nat_lit 19))] (nat_lit 8)) := ok_call (md := zmd_169) zh_169 zh_170 rfl (by decide) (by decide) (Or.inr (by decide)) zp_170 (zrow_callV (mdc := zmd_170) (index := 81) (md := zmd_169) zh_169 (by decide +kernel) rfl rfl zc_170 rfl (by decide) zw_4_212 zw_4_213 zw_4_214 zw_1_1 zd_170) ⟨⟨by decide, by decide, by decide, by decide, zw_2_226, zw_3_75, zrow_astore (md := zmd_169) zh_169 (by decide +kernel) rfl⟩, ⟨⟨by decide, by decide, by decide, by decide, zw_3_149, zw_3_160, zrow_astore (md := zmd_169) zh_169 (by decide +kernel) rfl⟩, trivial⟩⟩
theorem zr_169_8 : zOK zPre 169 8 (s_i2l (nat_lit 9)) := ok_i2l (md := zmd_169) zh_169 (by decide +kernel) rfl
theorem zr_169_9 : zOK zPre 169 9 (s_ast (nat_lit 21) (nat_lit 4) (nat_lit 10)) := ok_astL rfl rfl (zrow_lastore (md := zmd_169) zh_169 (by decide +kernel) rfl)
theorem zr_169_10 : zOK zPre 169 10 (s_go (nat_lit 21)) := ok_go (off := 11) (md := zmd_169) zh_169 (by decide +kernel) (by decide +kernel)
theorem zr_169_21 : zOK zPre 169 21 (s_k (nat_lit 0) (nat_lit 22)) := ok_iconst (n := 0) (md := zmd_169) zh_169 (by decide +kernel) rfl (by decide +kernel)
theorem zr_169_22 : zOK zPre 169 22 (s_ret (nat_lit 45067)) := ok_ret0 (t := 0) (i := .ireturn) (ty := .int) (md := zmd_169) zh_169 rfl (by decide +kernel) ⟨rfl, rfl⟩
theorem zr_170_0 : zOK zPre 170 0 (s_ld_0 (nat_lit 1136) (nat_lit 1)) := zokE (zld_0 _ _) (ok_ld0 (t := 4) (i := 0) (zrow_aload_n (k := 0) (md := zmd_170) zh_170 (by decide +kernel) rfl rfl))
theorem zr_170_1 : zOK zPre 170 1 (s_ld_1 (nat_lit 45067) (nat_lit 2)) := zokE (zld_1 _ _) (ok_ld0 (t := 0) (i := 1) (zrow_iload_n (k := 1) (md := zmd_170) zh_170 (by decide +kernel) rfl rfl))
theorem zr_170_2 : zOK zPre 170 2 (s_call (nat_lit 8) (nat_lit 26) (nat_lit 2) (nat_lit 2) (nat_lit 1) [] (nat_lit 5)) := ok_call (md := zmd_170) zh_170 zh_26 rfl (by decide) (by decide) (Or.inr (by decide)) zp_26 (zrow_callV (mdc := zmd_26) (index := 72) (md := zmd_170) zh_170 (by decide +kernel) rfl rfl zc_26 rfl (by decide) zw_3_69 zw_3_71 zws_1 zw_1_1 zd_26) trivial
theorem zr_170_5 : zOK zPre 170 5 (s_s1_3 (nat_lit 1136) (nat_lit 6)) := zokE (zs1_3 _ _) (ok_s10 (t := 4) (i := 3) (zrow_astore_n (k := 3) (md := zmd_170) zh_170 (by decide +kernel) rfl rfl))
theorem zr_170_6 : zOK zPre 170 6 (s_ld_0 (nat_lit 1136) (nat_lit 7)) := zokE (zld_0 _ _) (ok_ld0 (t := 4) (i := 0) (zrow_aload_n (k := 0) (md := zmd_170) zh_170 (by decide +kernel) rfl rfl))
theorem zr_170_7 : zOK zPre 170 7 (s_ld_2 (nat_lit 45067) (nat_lit 8)) := zokE (zld_2 _ _) (ok_ld0 (t := 0) (i := 2) (zrow_iload_n (k := 2) (md := zmd_170) zh_170 (by decide +kernel) rfl rfl))
theorem zr_170_8 : zOK zPre 170 8 (s_k (nat_lit 32) (nat_lit 9)) := ok_iconst (n := 2) (md := zmd_170) zh_170 (by decide +kernel) rfl (by decide +kernel)
theorem zr_170_9 : zOK zPre 170 9 (s_k (nat_lit 576) (nat_lit 11)) := ok_bipush (n := 36) (md := zmd_170) zh_170 (by decide +kernel) rfl (by decide +kernel)
theorem zr_170_11 : zOK zPre 170 11 (s_call (nat_lit 8) (nat_lit 61) (nat_lit 4) (nat_lit 4) (nat_lit 0) [] (nat_lit 14)) := ok_call (md := zmd_170) zh_170 zh_61 rfl (by decide) (by decide) (Or.inr (by decide)) zp_61 (zrow_callV (mdc := zmd_61) (index := 103) (md := zmd_170) zh_170 (by decide +kernel) rfl rfl zc_61 rfl (by decide) zw_3_154 zw_3_156 zws_5 zw_1_1 zd_61) trivial
theorem zr_170_14 : zOK zPre 170 14 (s_ld_0 (nat_lit 1136) (nat_lit 15)) := zokE (zld_0 _ _) (ok_ld0 (t := 4) (i := 0) (zrow_aload_n (k := 0) (md := zmd_170) zh_170 (by decide +kernel) rfl rfl))
theorem zr_170_15 : zOK zPre 170 15 (s_gf (nat_lit 8) (nat_lit 1) (nat_lit 18)) := ok_gf0 (by decide) (zrow_gf (index := 18) (ref := "Residueworks") (C := RX9) (T := TX9) (N := 10) (md := zmd_170) zh_170 (by decide +kernel) rfl rfl (by decide) zu_X9 zw_2_126 (Or.inl rfl))
theorem zr_170_18 : zOK zPre 170 18 (s_ld_3 (nat_lit 1136) (nat_lit 19)) := zokE (zld_3 _ _) (ok_ld0 (t := 4) (i := 3) (zrow_aload_n (k := 3) (md := zmd_170) zh_170 (by decide +kernel) rfl rfl))
theorem zr_170_19 : zOK zPre 170 19 (s_ld_2 (nat_lit 45067) (nat_lit 20)) := zokE (zld_2 _ _) (ok_ld0 (t := 0) (i := 2) (zrow_iload_n (k := 2) (md := zmd_170) zh_170 (by decide +kernel) rfl rfl))
theorem zr_170_20 : zOK zPre 170 20 (s_call (nat_lit 5) (nat_lit 171) (nat_lit 4) (nat_lit 3) (nat_lit 0) [] (nat_lit 23)) := ok_call (md := zmd_170) zh_170 zh_171 rfl (by decide) (by decide) (Or.inr (by decide)) zp_171 (zrow_callV (mdc := zmd_171) (index := 222) (md := zmd_170) zh_170 (by decide +kernel) rfl rfl zc_171 rfl (by decide) zw_4_216 zw_4_217 zw_4_218 zw_1_2 zd_171) trivial
theorem zr_170_23 : zOK zPre 170 23 (s_ld_0 (nat_lit 1136) (nat_lit 24)) := zokE (zld_0 _ _) (ok_ld0 (t := 4) (i := 0) (zrow_aload_n (k := 0) (md := zmd_170) zh_170 (by decide +kernel) rfl rfl))
theorem zr_170_24 : zOK zPre 170 24 (s_gf (nat_lit 8) (nat_lit 1) (nat_lit 27)) := ok_gf0 (by decide) (zrow_gf (index := 18) (ref := "Residueworks") (C := RX9) (T := TX9) (N := 10) (md := zmd_170) zh_170 (by decide +kernel) rfl rfl (by decide) zu_X9 zw_2_126 (Or.inl rfl))
theorem zr_170_27 : zOK zPre 170 27 (s_gf (nat_lit 5) (nat_lit 2) (nat_lit 30)) := ok_gf0 (by decide) (zrow_gf (index := 198) (ref := "Residueworks$Text") (C := RX6) (T := TX6) (N := 3) (md := zmd_170) zh_170 (by decide +kernel) rfl rfl (by decide) zu_X6 zw_1_87 (Or.inl rfl))
theorem zr_170_30 : zOK zPre 170 30 (s_ret (nat_lit 45067)) := ok_ret0 (t := 0) (i := .ireturn) (ty := .int) (md := zmd_170) zh_170 rfl (by decide +kernel) ⟨rfl, rfl⟩
theorem zr_171_0 : zOK zPre 171 0 (s_ld_0 (nat_lit 1136) (nat_lit 1)) := zokE (zld_0 _ _) (ok_ld0 (t := 4) (i := 0) (zrow_aload_n (k := 0) (md := zmd_171) zh_171 (by decide +kernel) rfl rfl))
theorem zr_171_1 : zOK zPre 171 1 (s_k (nat_lit 0) (nat_lit 2)) := ok_iconst (n := 0) (md := zmd_171) zh_171 (by decide +kernel) rfl (by decide +kernel)
theorem zr_171_2 : zOK zPre 171 2 (s_pf (nat_lit 5) (nat_lit 2) (nat_lit 0) (nat_lit 5)) := ok_pf0 (by decide) (zrow_pf (ty := .int) (index := 20) (ref := "Residueworks$Text") (C := RX6) (T := TX6) (N := 3) (ty0 := tyX6) (md := zmd_171) zh_171 (by decide +kernel) rfl rfl (by decide) zu_X6 tyX6_ok nmX6 zw_1_86 (Or.inl rfl) rfl (by decide +kernel) zfty0)
theorem zr_171_5 : zOK zPre 171 5 (s_ld_0 (nat_lit 1136) (nat_lit 6)) := zokE (zld_0 _ _) (ok_ld0 (t := 4) (i := 0) (zrow_aload_n (k := 0) (md := zmd_171) zh_171 (by decide +kernel) rfl rfl))
theorem zr_171_6 : zOK zPre 171 6 (s_gf (nat_lit 5) (nat_lit 1) (nat_lit 9)) := ok_gf0 (by decide) (zrow_gf (index := 16) (ref := "Residueworks$Text") (C := RX6) (T := TX6) (N := 3) (md := zmd_171) zh_171 (by decide +kernel) rfl rfl (by decide) zu_X6 zw_1_85 (Or.inl rfl))
theorem zr_171_9 : zOK zPre 171 9 (s_ld_1 (nat_lit 1136) (nat_lit 10)) := zokE (zld_1 _ _) (ok_ld0 (t := 4) (i := 1) (zrow_aload_n (k := 1) (md := zmd_171) zh_171 (by decide +kernel) rfl rfl))
theorem zr_171_10 : zOK zPre 171 10 (s_call (nat_lit 7) (nat_lit 104) (nat_lit 2) (nat_lit 2) (nat_lit 0) [] (nat_lit 13)) := ok_call (md := zmd_171) zh_171 zh_104 rfl (by decide) (by decide) (Or.inr (by decide)) zp_104 (zrow_callV (mdc := zmd_104) (index := 24) (md := zmd_171) zh_171 (by decide +kernel) rfl rfl zc_104 rfl (by decide) zw_4_220 zw_4_64 zw_4_65 zw_1_3 zd_104) trivial
theorem zr_171_13 : zOK zPre 171 13 (s_ld_0 (nat_lit 1136) (nat_lit 14)) := zokE (zld_0 _ _) (ok_ld0 (t := 4) (i := 0) (zrow_aload_n (k := 0) (md := zmd_171) zh_171 (by decide +kernel) rfl rfl))
theorem zr_171_14 : zOK zPre 171 14 (s_gf (nat_lit 5) (nat_lit 1) (nat_lit 17)) := ok_gf0 (by decide) (zrow_gf (index := 16) (ref := "Residueworks$Text") (C := RX6) (T := TX6) (N := 3) (md := zmd_171) zh_171 (by decide +kernel) rfl rfl (by decide) zu_X6 zw_1_85 (Or.inl rfl))
theorem zr_171_17 : zOK zPre 171 17 (s_gf (nat_lit 7) (nat_lit 2) (nat_lit 20)) := ok_gf0 (by decide) (zrow_gf (index := 28) (ref := "Residueworks$Whole") (C := RX8) (T := TX8) (N := 3) (md := zmd_171) zh_171 (by decide +kernel) rfl rfl (by decide) zu_X8 zw_1_72 (Or.inl rfl))
theorem zr_171_20 : zOK zPre 171 20 (s_if (nat_lit 1) zi_ne (nat_lit 29) (nat_lit 23)) := ok_if_ne (off := 9) (md := zmd_171) zh_171 (by decide +kernel) (by decide +kernel) rfl
theorem zr_171_23 : zOK zPre 171 23 (s_ld_0 (nat_lit 1136) (nat_lit 24)) := zokE (zld_0 _ _) (ok_ld0 (t := 4) (i := 0) (zrow_aload_n (k := 0) (md := zmd_171) zh_171 (by decide +kernel) rfl rfl))
theorem zr_171_24 : zOK zPre 171 24 (s_k (nat_lit 768) (nat_lit 26)) := ok_bipush (n := 48) (md := zmd_171) zh_171 (by decide +kernel) rfl (by decide +kernel)
theorem zr_171_26 : zOK zPre 171 26 (s_call (nat_lit 5) (nat_lit 149) (nat_lit 2) (nat_lit 2) (nat_lit 0) [] (nat_lit 29)) := ok_call (md := zmd_171) zh_171 zh_149 rfl (by decide) (by decide) (Or.inr (by decide)) zp_149 (zrow_callV (mdc := zmd_149) (index := 31) (md := zmd_171) zh_171 (by decide +kernel) rfl rfl zc_149 rfl (by decide) zw_4_221 zw_4_179 zw_4_180 zw_1_2 zd_149) trivial
theorem zr_171_29 : zOK zPre 171 29 (s_k (nat_lit 0) (nat_lit 30)) := ok_iconst (n := 0) (md := zmd_171) zh_171 (by decide +kernel) rfl (by decide +kernel)
theorem zr_171_30 : zOK zPre 171 30 (s_s1_3 (nat_lit 45067) (nat_lit 31)) := zokE (zs1_3 _ _) (ok_s10 (t := 0) (i := 3) (zrow_istore_n (k := 3) (md := zmd_171) zh_171 (by decide +kernel) rfl rfl))
theorem zr_171_31 : zOK zPre 171 31 (s_ld_3 (nat_lit 45067) (nat_lit 32)) := zokE (zld_3 _ _) (ok_ld0 (t := 0) (i := 3) (zrow_iload_n (k := 3) (md := zmd_171) zh_171 (by decide +kernel) rfl rfl))
theorem zr_171_32 : zOK zPre 171 32 (s_k (nat_lit 9760) (nat_lit 35)) := ok_sipush (n := 610) (md := zmd_171) zh_171 (by decide +kernel) rfl (by decide +kernel)
theorem zr_171_35 : zOK zPre 171 35 (s_ic (nat_lit 3) zu_ge (nat_lit 69) (nat_lit 38)) := ok_ic_ge (off := 34) (md := zmd_171) zh_171 (by decide +kernel) (by decide +kernel) rfl
theorem zr_171_38 : zOK zPre 171 38 (s_ld_0 (nat_lit 1136) (nat_lit 39)) := zokE (zld_0 _ _) (ok_ld0 (t := 4) (i := 0) (zrow_aload_n (k := 0) (md := zmd_171) zh_171 (by decide +kernel) rfl rfl))
theorem zr_171_39 : zOK zPre 171 39 (s_gf (nat_lit 5) (nat_lit 1) (nat_lit 42)) := ok_gf0 (by decide) (zrow_gf (index := 16) (ref := "Residueworks$Text") (C := RX6) (T := TX6) (N := 3) (md := zmd_171) zh_171 (by decide +kernel) rfl rfl (by decide) zu_X6 zw_1_85 (Or.inl rfl))
theorem zr_171_42 : zOK zPre 171 42 (s_gf (nat_lit 7) (nat_lit 2) (nat_lit 45)) := ok_gf0 (by decide) (zrow_gf (index := 28) (ref := "Residueworks$Whole") (C := RX8) (T := TX8) (N := 3) (md := zmd_171) zh_171 (by decide +kernel) rfl rfl (by decide) zu_X8 zw_1_72 (Or.inl rfl))
theorem zr_171_45 : zOK zPre 171 45 (s_if (nat_lit 0) zi_eq (nat_lit 69) (nat_lit 48)) := ok_if_eq (off := 24) (md := zmd_171) zh_171 (by decide +kernel) (by decide +kernel) rfl
theorem zr_171_69 : zOK zPre 171 69 (s_ld_1 (nat_lit 1136) (nat_lit 70)) := zokE (zld_1 _ _) (ok_ld0 (t := 4) (i := 1) (zrow_aload_n (k := 1) (md := zmd_171) zh_171 (by decide +kernel) rfl rfl))
theorem zr_171_70 : zOK zPre 171 70 (s_gf (nat_lit 7) (nat_lit 2) (nat_lit 73)) := ok_gf0 (by decide) (zrow_gf (index := 28) (ref := "Residueworks$Whole") (C := RX8) (T := TX8) (N := 3) (md := zmd_171) zh_171 (by decide +kernel) rfl rfl (by decide) zu_X8 zw_1_72 (Or.inl rfl))
theorem zr_171_73 : zOK zPre 171 73 (s_if (nat_lit 3) zi_ge (nat_lit 82) (nat_lit 76)) := ok_if_ge (off := 9) (md := zmd_171) zh_171 (by decide +kernel) (by decide +kernel) rfl
theorem zr_171_82 : zOK zPre 171 82 (s_ld_0 (nat_lit 1136) (nat_lit 83)) := zokE (zld_0 _ _) (ok_ld0 (t := 4) (i := 0) (zrow_aload_n (k := 0) (md := zmd_171) zh_171 (by decide +kernel) rfl rfl))
theorem zr_171_83 : zOK zPre 171 83 (s_call (nat_lit 5) (nat_lit 172) (nat_lit 4) (nat_lit 1) (nat_lit 0) [] (nat_lit 86)) := ok_call (md := zmd_171) zh_171 zh_172 rfl (by decide) (by decide) (Or.inr (by decide)) zp_172 (zrow_callV (mdc := zmd_172) (index := 43) (md := zmd_171) zh_171 (by decide +kernel) rfl rfl zc_172 rfl (by decide) zw_4_229 zw_4_231 zws_13 zw_1_2 zd_172) trivial
theorem zr_171_86 : zOK zPre 171 86 (s_rv) := ok_rv (md := zmd_171) zh_171 rfl (by decide +kernel)
theorem zr_172_0 : zOK zPre 172 0 (s_k (nat_lit 0) (nat_lit 1)) := ok_iconst (n := 0) (md := zmd_172) zh_172 (by decide +kernel) rfl (by decide +kernel)
theorem zr_172_1 : zOK zPre 172 1 (s_s1_1 (nat_lit 45067) (nat_lit 2)) := zokE (zs1_1 _ _) (ok_s10 (t := 0) (i := 1) (zrow_istore_n (k := 1) (md := zmd_172) zh_172 (by decide +kernel) rfl rfl))
theorem zr_172_2 : zOK zPre 172 2 (s_ld_0 (nat_lit 1136) (nat_lit 3)) := zokE (zld_0 _ _) (ok_ld0 (t := 4) (i := 0) (zrow_aload_n (k := 0) (md := zmd_172) zh_172 (by decide +kernel) rfl rfl))
theorem zr_172_3 : zOK zPre 172 3 (s_gf (nat_lit 5) (nat_lit 2) (nat_lit 6)) := ok_gf0 (by decide) (zrow_gf (index := 20) (ref := "Residueworks$Text") (C := RX6) (T := TX6) (N := 3) (md := zmd_172) zh_172 (by decide +kernel) rfl rfl (by decide) zu_X6 zw_1_86 (Or.inl rfl))
theorem zr_172_6 : zOK zPre 172 6 (s_k (nat_lit 16) (nat_lit 7)) := ok_iconst (n := 1) (md := zmd_172) zh_172 (by decide +kernel) rfl (by decide +kernel)
theorem zr_172_7 : zOK zPre 172 7 (s_isub (nat_lit 8)) := ok_isub (md := zmd_172) zh_172 (by decide +kernel) rfl
theorem zr_172_8 : zOK zPre 172 8 (s_s1_2 (nat_lit 45067) (nat_lit 9)) := zokE (zs1_2 _ _) (ok_s10 (t := 0) (i := 2) (zrow_istore_n (k := 2) (md := zmd_172) zh_172 (by decide +kernel) rfl rfl))
theorem zr_172_9 : zOK zPre 172 9 (s_ld_1 (nat_lit 45067) (nat_lit 10)) := zokE (zld_1 _ _) (ok_ld0 (t := 0) (i := 1) (zrow_iload_n (k := 1) (md := zmd_172) zh_172 (by decide +kernel) rfl rfl))
theorem zr_172_10 : zOK zPre 172 10 (s_ld_2 (nat_lit 45067) (nat_lit 11)) := zokE (zld_2 _ _) (ok_ld0 (t := 0) (i := 2) (zrow_iload_n (k := 2) (md := zmd_172) zh_172 (by decide +kernel) rfl rfl))
theorem zr_172_11 : zOK zPre 172 11 (s_ic (nat_lit 3) zu_ge (nat_lit 58) (nat_lit 14)) := ok_ic_ge (off := 47) (md := zmd_172) zh_172 (by decide +kernel) (by decide +kernel) rfl
theorem zr_172_58 : zOK zPre 172 58 (s_rv) := ok_rv (md := zmd_172) zh_172 rfl (by decide +kernel)
theorem zr_173_0 : zOK zPre 173 0 (s_ld_0 (nat_lit 1136) (nat_lit 1)) := zokE (zld_0 _ _) (ok_ld0 (t := 4) (i := 0) (zrow_aload_n (k := 0) (md := zmd_173) zh_173 (by decide +kernel) rfl rfl))
theorem zr_173_1 : zOK zPre 173 1 (s_k (nat_lit 16) (nat_lit 2)) := ok_iconst (n := 1) (md := zmd_173) zh_173 (by decide +kernel) rfl (by decide +kernel)
theorem zr_173_2 : zOK zPre 173 2 (s_na (nat_lit 20) (nat_lit 0) (nat_lit 4)) := ok_na0 (by decide) rfl (zrow_na20 (md := zmd_173) zh_173 (by decide +kernel) rfl zw_1_83)
theorem zr_173_4 : zOK zPre 173 4 (s_dup (nat_lit 5)) := ok_dup (md := zmd_173) zh_173 (by decide +kernel) rfl
theorem zr_173_5 : zOK zPre 173 5 (s_k (nat_lit 0) (nat_lit 6)) := ok_iconst (n := 0) (md := zmd_173) zh_173 (by decide +kernel) rfl (by decide +kernel)
theorem zr_173_6 : zOK zPre 173 6 (s_ld_1 (nat_lit 45067) (nat_lit 7)) := zokE (zld_1 _ _) (ok_ld0 (t := 0) (i := 1) (zrow_iload_n (k := 1) (md := zmd_173) zh_173 (by decide +kernel) rfl rfl))
theorem zr_173_7 : zOK zPre 173 7 (s_ast (nat_lit 20) (nat_lit 0) (nat_lit 8)) := ok_astI (Or.inl rfl) (Or.inl rfl) (zrow_iastore (md := zmd_173) zh_173 (by decide +kernel) rfl)
theorem zr_173_8 : zOK zPre 173 8 (s_call (nat_lit 99) (nat_lit 32) (nat_lit 6) (nat_lit 1) (nat_lit 1) [] (nat_lit 11)) := ok_call (md := zmd_173) zh_173 zh_32 rfl (by decide) (by decide) (Or.inl rfl) zp_32 (zrow_callS (mdc := zmd_32) (index := 176) (md := zmd_173) zh_173 (by decide +kernel) rfl rfl zc_32 zw_7_74 zw_7_75 zw_1_10 zd_32) trivial
theorem zr_173_11 : zOK zPre 173 11 (s_k (nat_lit 16) (nat_lit 12)) := ok_iconst (n := 1) (md := zmd_173) zh_173 (by decide +kernel) rfl (by decide +kernel)
theorem zr_173_12 : zOK zPre 173 12 (s_call (nat_lit 10) (nat_lit 34) (nat_lit 3) (nat_lit 3) (nat_lit 1) [] (nat_lit 15)) := ok_call (md := zmd_173) zh_173 zh_34 rfl (by decide) (by decide) (Or.inr (by decide)) zp_34 (zrow_callV (mdc := zmd_34) (index := 180) (md := zmd_173) zh_173 (by decide +kernel) rfl rfl zc_34 rfl (by decide) zw_7_81 zw_7_83 zws_33 zw_1_10 zd_34) trivial
theorem zr_173_15 : zOK zPre 173 15 (s_if (nat_lit 1) zi_ne (nat_lit 37) (nat_lit 18)) := ok_if_ne (off := 22) (md := zmd_173) zh_173 (by decide +kernel) (by decide +kernel) rfl
theorem zr_173_18 : zOK zPre 173 18 (s_ld_0 (nat_lit 1136) (nat_lit 19)) := zokE (zld_0 _ _) (ok_ld0 (t := 4) (i := 0) (zrow_aload_n (k := 0) (md := zmd_173) zh_173 (by decide +kernel) rfl rfl))
theorem zr_173_19 : zOK zPre 173 19 (s_ld_2 (nat_lit 45067) (nat_lit 20)) := zokE (zld_2 _ _) (ok_ld0 (t := 0) (i := 2) (zrow_iload_n (k := 2) (md := zmd_173) zh_173 (by decide +kernel) rfl rfl))
theorem zr_173_20 : zOK zPre 173 20 (s_i2l (nat_lit 21)) := ok_i2l (md := zmd_173) zh_173 (by decide +kernel) rfl
theorem zr_173_21 : zOK zPre 173 21 (s_k (nat_lit 34) (nat_lit 24)) := ok_ldc2 (i := 273) (n := (2 : Int64)) (md := zmd_173) zh_173 (by decide +kernel) rfl zw_9_176 (by decide +kernel)
theorem zr_173_24 : zOK zPre 173 24 (s_k (nat_lit 578) (nat_lit 27)) := ok_ldc2 (i := 275) (n := (36 : Int64)) (md := zmd_173) zh_173 (by decide +kernel) rfl zw_9_177 (by decide +kernel)
theorem zr_173_27 : zOK zPre 173 27 (s_call (nat_lit 99) (nat_lit 33) (nat_lit 6) (nat_lit 3) (nat_lit 1) [] (nat_lit 30)) := ok_call (md := zmd_173) zh_173 zh_33 rfl (by decide) (by decide) (Or.inl rfl) zp_33 (zrow_callS (mdc := zmd_33) (index := 172) (md := zmd_173) zh_173 (by decide +kernel) rfl rfl zc_33 zw_7_78 zw_7_79 zw_1_10 zd_33) trivial
theorem zr_173_30 : zOK zPre 173 30 (s_k (nat_lit 32) (nat_lit 31)) := ok_iconst (n := 2) (md := zmd_173) zh_173 (by decide +kernel) rfl (by decide +kernel)
theorem zr_173_31 : zOK zPre 173 31 (s_call (nat_lit 10) (nat_lit 34) (nat_lit 3) (nat_lit 3) (nat_lit 1) [] (nat_lit 34)) := ok_call (md := zmd_173) zh_173 zh_34 rfl (by decide) (by decide) (Or.inr (by decide)) zp_34 (zrow_callV (mdc := zmd_34) (index := 180) (md := zmd_173) zh_173 (by decide +kernel) rfl rfl zc_34 rfl (by decide) zw_7_81 zw_7_83 zws_33 zw_1_10 zd_34) trivial
theorem zr_173_34 : zOK zPre 173 34 (s_if (nat_lit 0) zi_eq (nat_lit 39) (nat_lit 37)) := ok_if_eq (off := 5) (md := zmd_173) zh_173 (by decide +kernel) (by decide +kernel) rfl
theorem zr_173_39 : zOK zPre 173 39 (s_ld_0 (nat_lit 1136) (nat_lit 40)) := zokE (zld_0 _ _) (ok_ld0 (t := 4) (i := 0) (zrow_aload_n (k := 0) (md := zmd_173) zh_173 (by decide +kernel) rfl rfl))
theorem zr_173_40 : zOK zPre 173 40 (s_gf (nat_lit 10) (nat_lit 0) (nat_lit 43)) := ok_gf0 (by decide) (zrow_gf (index := 144) (ref := "ResidueworksModel") (C := RX11) (T := TX11) (N := 6) (md := zmd_173) zh_173 (by decide +kernel) rfl rfl (by decide) zu_X11 zw_7_47 (Or.inl rfl))
theorem zr_173_43 : zOK zPre 173 43 (s_ld_1 (nat_lit 45067) (nat_lit 44)) := zokE (zld_1 _ _) (ok_ld0 (t := 0) (i := 1) (zrow_iload_n (k := 1) (md := zmd_173) zh_173 (by decide +kernel) rfl rfl))
theorem zr_173_44 : zOK zPre 173 44 (s_ald (nat_lit 25) (nat_lit 29) (nat_lit 45)) := ok_ald0 (by decide) (by decide) (by decide) (zrow_aaload (md := zmd_173) zh_173 (by decide +kernel) rfl)
theorem zr_173_45 : zOK zPre 173 45 (s_s1_3 (nat_lit 1136) (nat_lit 46)) := zokE (zs1_3 _ _) (ok_s10 (t := 4) (i := 3) (zrow_astore_n (k := 3) (md := zmd_173) zh_173 (by decide +kernel) rfl rfl))
theorem zr_173_46 : zOK zPre 173 46 (s_new (nat_lit 11) (nat_lit 4) [(nat_lit 5), (nat_lit 0), (nat_lit 0), (nat_lit 0)] (nat_lit 49)) := ok_new0 (fsV := zfv_J4) (by decide) zfs_J4 (zrow_new (index := 148) (C := RJ4) (T := TJ4) (N := 4) (ty0 := tyJ4) (md := zmd_173) zh_173 (by decide +kernel) rfl rfl zu_J4 tyJ4_ok zw_6_201 zw_6_202 zw_1_12 zdf_J4)
theorem zr_173_49 : zOK zPre 173 49 (s_dup (nat_lit 50)) := ok_dup (md := zmd_173) zh_173 (by decide +kernel) rfl
theorem zr_173_50 : zOK zPre 173 50 (s_call (nat_lit 11) (nat_lit 15) (nat_lit 1) (nat_lit 1) (nat_lit 0) [] (nat_lit 53)) := ok_call (md := zmd_173) zh_173 zh_15 rfl (by decide) (by decide) (Or.inr (by decide)) zp_15 (zrow_callI (mdc := zmd_15) (index := 150) (md := zmd_173) zh_173 (by decide +kernel) rfl rfl rfl rfl zc_15 (by decide) zw_6_203 zw_6_204 zw_1_12 zd_15) trivial
theorem zr_173_53 : zOK zPre 173 53 (s_s1_4 (nat_lit 1136) (nat_lit 55)) := zokE (zs1_4 _ _) (ok_s10 (t := 4) (i := 4) (zrow_astore (md := zmd_173) zh_173 (by decide +kernel) rfl))
theorem zr_173_55 : zOK zPre 173 55 (s_ld_3 (nat_lit 1136) (nat_lit 56)) := zokE (zld_3 _ _) (ok_ld0 (t := 4) (i := 3) (zrow_aload_n (k := 3) (md := zmd_173) zh_173 (by decide +kernel) rfl rfl))
theorem zr_173_56 : zOK zPre 173 56 (s_gf (nat_lit 9) (nat_lit 1) (nat_lit 59)) := ok_gf0 (by decide) (zrow_gfN (index := 94) (ref := "ResidueworksModel$Whole") (C := RX10) (T := TX10) (N := 2) (md := zmd_173) zh_173 (by decide +kernel) rfl rfl (by decide) zu_X10 zw_7_41 (Or.inl rfl))
theorem zr_173_59 : zOK zPre 173 59 (s_s1_5 (nat_lit 1136) (nat_lit 61)) := zokE (zs1_5 _ _) (ok_s10 (t := 4) (i := 5) (zrow_astore (md := zmd_173) zh_173 (by decide +kernel) rfl))
theorem zr_173_61 : zOK zPre 173 61 (s_ld_5 (nat_lit 1136) (nat_lit 63)) := zokE (zld_5 _ _) (ok_ld0 (t := 4) (i := 5) (zrow_aload (md := zmd_173) zh_173 (by decide +kernel) rfl))
theorem zr_173_63 : zOK zPre 173 63 (s_ld_2 (nat_lit 45067) (nat_lit 64)) := zokE (zld_2 _ _) (ok_ld0 (t := 0) (i := 2) (zrow_iload_n (k := 2) (md := zmd_173) zh_173 (by decide +kernel) rfl rfl))
theorem zr_173_64 : zOK zPre 173 64 (s_cdie (nat_lit 99) (nat_lit 174) (nat_lit 8) (nat_lit 2)) := ok_cdie (md := zmd_173) zh_173 zh_174 rfl (by decide) (Or.inl rfl) (by decide +kernel) rfl (zrow_dieS (mdc := zmd_174) (index := 37) (md := zmd_173) zh_173 (by decide +kernel) rfl rfl zc_174 zw_8_74 zw_8_75 zw_1_10 zd_174)
theorem zr_174_0 : zOK zPre 174 0 (s_ld_0 (nat_lit 1136) (nat_lit 1)) := zokE (zld_0 _ _) (ok_ld0 (t := 4) (i := 0) (zrow_aload_n (k := 0) (md := zmd_174) zh_174 (by decide +kernel) rfl rfl))
theorem zr_174_1 : zOK zPre 174 1 (s_al (nat_lit 2)) := ok_al (md := zmd_174) zh_174 (by decide +kernel) rfl
theorem zr_174_2 : zOK zPre 174 2 (s_na (nat_lit 20) (nat_lit 0) (nat_lit 4)) := ok_na0 (by decide) rfl (zrow_na20 (md := zmd_174) zh_174 (by decide +kernel) rfl zw_1_83)
theorem zr_174_4 : zOK zPre 174 4 (s_s1_2 (nat_lit 1136) (nat_lit 5)) := zokE (zs1_2 _ _) (ok_s10 (t := 4) (i := 2) (zrow_astore_n (k := 2) (md := zmd_174) zh_174 (by decide +kernel) rfl rfl))
theorem zr_174_5 : zOK zPre 174 5 (s_k (nat_lit 2) (nat_lit 6)) := ok_lconst (n := 0) (md := zmd_174) zh_174 (by decide +kernel) rfl (by decide +kernel)
theorem zr_174_6 : zOK zPre 174 6 (s_s2 (nat_lit 18436) (nat_lit 3) (nat_lit 7)) := ok_s20 (t := 1) (i := 3) (zrow_lstore_n (k := 3) (md := zmd_174) zh_174 (by decide +kernel) rfl rfl)
theorem zr_174_7 : zOK zPre 174 7 (s_ld_0 (nat_lit 1136) (nat_lit 8)) := zokE (zld_0 _ _) (ok_ld0 (t := 4) (i := 0) (zrow_aload_n (k := 0) (md := zmd_174) zh_174 (by decide +kernel) rfl rfl))
theorem zr_174_8 : zOK zPre 174 8 (s_al (nat_lit 9)) := ok_al (md := zmd_174) zh_174 (by decide +kernel) rfl
theorem zr_174_9 : zOK zPre 174 9 (s_k (nat_lit 16) (nat_lit 10)) := ok_iconst (n := 1) (md := zmd_174) zh_174 (by decide +kernel) rfl (by decide +kernel)
theorem zr_174_10 : zOK zPre 174 10 (s_isub (nat_lit 11)) := ok_isub (md := zmd_174) zh_174 (by decide +kernel) rfl
theorem zr_174_11 : zOK zPre 174 11 (s_s1_5 (nat_lit 45067) (nat_lit 13)) := zokE (zs1_5 _ _) (ok_s10 (t := 0) (i := 5) (zrow_istore (md := zmd_174) zh_174 (by decide +kernel) rfl))
theorem zr_174_13 : zOK zPre 174 13 (s_ld_5 (nat_lit 45067) (nat_lit 15)) := zokE (zld_5 _ _) (ok_ld0 (t := 0) (i := 5) (zrow_iload (md := zmd_174) zh_174 (by decide +kernel) rfl))
theorem zr_174_15 : zOK zPre 174 15 (s_if (nat_lit 2) zi_lt (nat_lit 52) (nat_lit 18)) := ok_if_lt (off := 37) (md := zmd_174) zh_174 (by decide +kernel) (by decide +kernel) rfl
theorem zr_174_52 : zOK zPre 174 52 (s_k (nat_lit 32) (nat_lit 53)) := ok_iconst (n := 2) (md := zmd_174) zh_174 (by decide +kernel) rfl (by decide +kernel)
theorem zr_174_53 : zOK zPre 174 53 (s_na (nat_lit 27) (nat_lit 5) (nat_lit 56)) := ok_na0 (by decide) rfl (zrow_na27 (index := 36) (md := zmd_174) zh_174 (by decide +kernel) rfl zw_8_72 zw_8_73)
theorem zr_174_56 : zOK zPre 174 56 (s_dup (nat_lit 57)) := ok_dup (md := zmd_174) zh_174 (by decide +kernel) rfl
theorem zr_174_57 : zOK zPre 174 57 (s_k (nat_lit 0) (nat_lit 58)) := ok_iconst (n := 0) (md := zmd_174) zh_174 (by decide +kernel) rfl (by decide +kernel)
theorem zr_174_58 : zOK zPre 174 58 (s_ld_2 (nat_lit 1136) (nat_lit 59)) := zokE (zld_2 _ _) (ok_ld0 (t := 4) (i := 2) (zrow_aload_n (k := 2) (md := zmd_174) zh_174 (by decide +kernel) rfl rfl))
theorem zr_174_59 : zOK zPre 174 59 (s_call (nat_lit 99) (nat_lit 22) (nat_lit 3) (nat_lit 1) (nat_lit 1) [] (nat_lit 62)) := ok_call (md := zmd_174) zh_174 zh_22 rfl (by decide) (by decide) (Or.inl rfl) zp_22 (zrow_callS (mdc := zmd_22) (index := 14) (md := zmd_174) zh_174 (by decide +kernel) rfl rfl zc_22 zw_7_30 zw_7_31 zw_1_10 zd_22) trivial
theorem zr_174_62 : zOK zPre 174 62 (s_aa4 (nat_lit 27) (nat_lit 20) (nat_lit 63)) := ok_aa4 (by decide) (zrow_aaA (md := zmd_174) zh_174 (by decide +kernel) rfl)
theorem zr_174_63 : zOK zPre 174 63 (s_dup (nat_lit 64)) := ok_dup (md := zmd_174) zh_174 (by decide +kernel) rfl
theorem zr_174_64 : zOK zPre 174 64 (s_k (nat_lit 16) (nat_lit 65)) := ok_iconst (n := 1) (md := zmd_174) zh_174 (by decide +kernel) rfl (by decide +kernel)
theorem zr_174_65 : zOK zPre 174 65 (s_ld_3 (nat_lit 18436) (nat_lit 66)) := zokE (zld_3 _ _) (ok_ld0 (t := 1) (i := 3) (zrow_lload_n (k := 3) (md := zmd_174) zh_174 (by decide +kernel) rfl rfl))
theorem zr_174_66 : zOK zPre 174 66 (s_k (nat_lit 2) (nat_lit 67)) := ok_lconst (n := 0) (md := zmd_174) zh_174 (by decide +kernel) rfl (by decide +kernel)
theorem zr_174_67 : zOK zPre 174 67 (s_lcmp (nat_lit 68)) := ok_lcmp (md := zmd_174) zh_174 (by decide +kernel) rfl
theorem zr_174_68 : zOK zPre 174 68 (s_if (nat_lit 1) zi_ne (nat_lit 77) (nat_lit 71)) := ok_if_ne (off := 9) (md := zmd_174) zh_174 (by decide +kernel) (by decide +kernel) rfl
theorem zr_174_71 : zOK zPre 174 71 (s_k (nat_lit 22) (nat_lit 74)) := ok_gets (index := 28) (C := "ResidueworksModel") (n := "NOTHING") (d := "[I") (md := zmd_174) zh_174 (by decide +kernel) rfl (List.mem_of_getElem? (i := 0) rfl) zw_7_125
theorem zr_174_74 : zOK zPre 174 74 (s_go (nat_lit 85)) := ok_go (off := 11) (md := zmd_174) zh_174 (by decide +kernel) (by decide +kernel)
theorem zr_174_85 : zOK zPreW 174 85 (s_die) := ok_die (md := zmd_174) zh_174 (by decide +kernel) rfl
theorem zr_0_0 : zOK zPre 0 0 (s_new (nat_lit 8) (nat_lit 10) [(nat_lit 5), (nat_lit 5), (nat_lit 5), (nat_lit 5), (nat_lit 5), (nat_lit 5), (nat_lit 5), (nat_lit 5), (nat_lit 5), (nat_lit 5)] (nat_lit 3)) := ok_new0 (fsV := zfv_X9) (by decide) zfs_X9 (zrow_new (index := 8) (C := RX9) (T := TX9) (N := 10) (ty0 := tyX9) (md := zmd_0) zh_0 (by decide +kernel) rfl rfl zu_X9 tyX9_ok zw_1_42 zw_1_43 zw_1_1 zdf_X9)
theorem zr_0_3 : zOK zPre 0 3 (s_dup (nat_lit 4)) := ok_dup (md := zmd_0) zh_0 (by decide +kernel) rfl
theorem zr_0_4 : zOK zPre 0 4 (s_call (nat_lit 8) (nat_lit 1) (nat_lit 2) (nat_lit 1) (nat_lit 0) [] (nat_lit 7)) := ok_call (md := zmd_0) zh_0 zh_1 rfl (by decide) (by decide) (Or.inr (by decide)) zp_1 (zrow_callI (mdc := zmd_1) (index := 143) (md := zmd_0) zh_0 (by decide +kernel) rfl rfl rfl rfl zc_1 (by decide) zw_1_44 zw_1_45 zw_1_1 zd_1) trivial
theorem zr_0_7 : zOK zPre 0 7 (s_s1_1 (nat_lit 1136) (nat_lit 8)) := zokE (zs1_1 _ _) (ok_s10 (t := 4) (i := 1) (zrow_astore_n (k := 1) (md := zmd_0) zh_0 (by decide +kernel) rfl rfl))
theorem zr_0_8 : zOK zPre 0 8 (s_new (nat_lit 10) (nat_lit 6) [(nat_lit 5), (nat_lit 5), (nat_lit 5), (nat_lit 5), (nat_lit 5), (nat_lit 0)] (nat_lit 11)) := ok_new0 (fsV := zfv_X11) (by decide) zfs_X11 (zrow_new (index := 144) (C := RX11) (T := TX11) (N := 6) (ty0 := tyX11) (md := zmd_0) zh_0 (by decide +kernel) rfl rfl zu_X11 tyX11_ok zw_6_193 zw_6_194 zw_1_10 zdf_X11)
theorem zr_0_11 : zOK zPre 0 11 (s_dup (nat_lit 12)) := ok_dup (md := zmd_0) zh_0 (by decide +kernel) rfl
theorem zr_0_12 : zOK zPre 0 12 (s_call (nat_lit 10) (nat_lit 14) (nat_lit 2) (nat_lit 1) (nat_lit 0) [] (nat_lit 15)) := ok_call (md := zmd_0) zh_0 zh_14 rfl (by decide) (by decide) (Or.inr (by decide)) zp_14 (zrow_callI (mdc := zmd_14) (index := 146) (md := zmd_0) zh_0 (by decide +kernel) rfl rfl rfl rfl zc_14 (by decide) zw_6_195 zw_6_196 zw_1_10 zd_14) trivial
theorem zr_0_15 : zOK zPre 0 15 (s_s1_2 (nat_lit 1136) (nat_lit 16)) := zokE (zs1_2 _ _) (ok_s10 (t := 4) (i := 2) (zrow_astore_n (k := 2) (md := zmd_0) zh_0 (by decide +kernel) rfl rfl))
theorem zr_0_16 : zOK zPre 0 16 (s_k (nat_lit 16) (nat_lit 17)) := ok_iconst (n := 1) (md := zmd_0) zh_0 (by decide +kernel) rfl (by decide +kernel)
theorem zr_0_17 : zOK zPre 0 17 (s_na (nat_lit 21) (nat_lit 2) (nat_lit 19)) := ok_na0 (by decide) rfl (zrow_na21 (md := zmd_0) zh_0 (by decide +kernel) rfl zw_11_40)
theorem zr_0_19 : zOK zPre 0 19 (s_s1_3 (nat_lit 1136) (nat_lit 20)) := zokE (zs1_3 _ _) (ok_s10 (t := 4) (i := 3) (zrow_astore_n (k := 3) (md := zmd_0) zh_0 (by decide +kernel) rfl rfl))
theorem zr_0_20 : zOK zPre 0 20 (s_k (nat_lit 16) (nat_lit 21)) := ok_iconst (n := 1) (md := zmd_0) zh_0 (by decide +kernel) rfl (by decide +kernel)
theorem zr_0_21 : zOK zPre 0 21 (s_na (nat_lit 24) (nat_lit 7) (nat_lit 23)) := ok_na0 (by decide) rfl (zrow_na24 (md := zmd_0) zh_0 (by decide +kernel) rfl zw_11_41)
theorem zr_0_23 : zOK zPre 0 23 (s_s1_4 (nat_lit 1136) (nat_lit 25)) := zokE (zs1_4 _ _) (ok_s10 (t := 4) (i := 4) (zrow_astore (md := zmd_0) zh_0 (by decide +kernel) rfl))
theorem zr_0_25 : zOK zPre 0 25 (s_k (nat_lit 0) (nat_lit 26)) := ok_iconst (n := 0) (md := zmd_0) zh_0 (by decide +kernel) rfl (by decide +kernel)
theorem zr_0_26 : zOK zPre 0 26 (s_s1_5 (nat_lit 45067) (nat_lit 28)) := zokE (zs1_5 _ _) (ok_s10 (t := 0) (i := 5) (zrow_istore (md := zmd_0) zh_0 (by decide +kernel) rfl))
theorem zr_0_28 : zOK zPre 0 28 (s_ld_5 (nat_lit 45067) (nat_lit 30)) := zokE (zld_5 _ _) (ok_ld0 (t := 0) (i := 5) (zrow_iload (md := zmd_0) zh_0 (by decide +kernel) rfl))
theorem zr_0_30 : zOK zPre 0 30 (s_ld_0 (nat_lit 1136) (nat_lit 31)) := zokE (zld_0 _ _) (ok_ld0 (t := 4) (i := 0) (zrow_aload_n (k := 0) (md := zmd_0) zh_0 (by decide +kernel) rfl rfl))
theorem zr_0_31 : zOK zPre 0 31 (s_al (nat_lit 32)) := ok_al (md := zmd_0) zh_0 (by decide +kernel) rfl
theorem zr_0_32 : zOK zPre 0 32 (s_k (nat_lit 80) (nat_lit 33)) := ok_iconst (n := 5) (md := zmd_0) zh_0 (by decide +kernel) rfl (by decide +kernel)
theorem zr_0_33 : zOK zPre 0 33 (s_isub (nat_lit 34)) := ok_isub (md := zmd_0) zh_0 (by decide +kernel) rfl
theorem zr_0_34 : zOK zPre 0 34 (s_ic (nat_lit 4) zu_gt (nat_lit 2919) (nat_lit 37)) := ok_ic_gt (off := 2885) (md := zmd_0) zh_0 (by decide +kernel) (by decide +kernel) rfl
theorem zr_0_37 : zOK zPre 0 37 (s_ld_0 (nat_lit 1136) (nat_lit 38)) := zokE (zld_0 _ _) (ok_ld0 (t := 4) (i := 0) (zrow_aload_n (k := 0) (md := zmd_0) zh_0 (by decide +kernel) rfl rfl))
theorem zr_0_38 : zOK zPre 0 38 (s_ld_5 (nat_lit 45067) (nat_lit 40)) := zokE (zld_5 _ _) (ok_ld0 (t := 0) (i := 5) (zrow_iload (md := zmd_0) zh_0 (by decide +kernel) rfl))
theorem zr_0_40 : zOK zPre 0 40 (s_sld (nat_lit 41)) := ok_sld (md := zmd_0) zh_0 (by decide +kernel) rfl
theorem zr_0_41 : zOK zPre 0 41 (s_k (nat_lit 1008) (nat_lit 43)) := ok_bipush (n := 63) (md := zmd_0) zh_0 (by decide +kernel) rfl (by decide +kernel)
theorem zr_0_43 : zOK zPre 0 43 (s_iand (nat_lit 44)) := ok_iand (md := zmd_0) zh_0 (by decide +kernel) rfl
theorem zr_0_44 : zOK zPre 0 44 (s_sw [((nat_lit 0), (nat_lit 224)), ((nat_lit 16), (nat_lit 324)), ((nat_lit 32), (nat_lit 424)), ((nat_lit 48), (nat_lit 492)), ((nat_lit 64), (nat_lit 559)), ((nat_lit 80), (nat_lit 629)), ((nat_lit 96), (nat_lit 685)), ((nat_lit 112), (nat_lit 753)), ((nat_lit 128), (nat_lit 847)), ((nat_lit 144), (nat_lit 929)), ((nat_lit 160), (nat_lit 1009)), ((nat_lit 176), (nat_lit 1084)), ((nat_lit 192), (nat_lit 1166)), ((nat_lit 208), (nat_lit 1246)), ((nat_lit 224), (nat_lit 1338)), ((nat_lit 240), (nat_lit 1396)), ((nat_lit 256), (nat_lit 1409)), ((nat_lit 272), (nat_lit 1465)), ((nat_lit 288), (nat_lit 1533)), ((nat_lit 304), (nat_lit 1601)), ((nat_lit 320), (nat_lit 1657)), ((nat_lit 336), (nat_lit 1670)), ((nat_lit 352), (nat_lit 1726)), ((nat_lit 368), (nat_lit 1782)), ((nat_lit 384), (nat_lit 1838)), ((nat_lit 400), (nat_lit 1930)), ((nat_lit 416), (nat_lit 2010)), ((nat_lit 432), (nat_lit 2078)), ((nat_lit 448), (nat_lit 2134)), ((nat_lit 464), (nat_lit 2202)), ((nat_lit 480), (nat_lit 2258)), ((nat_lit 496), (nat_lit 2321)), ((nat_lit 512), (nat_lit 2401)), ((nat_lit 528), (nat_lit 2469)), ((nat_lit 544), (nat_lit 2544)), ((nat_lit 560), (nat_lit 2557)), ((nat_lit 576), (nat_lit 2637)), ((nat_lit 592), (nat_lit 2693)), ((nat_lit 608), (nat_lit 2771)), ((nat_lit 624), (nat_lit 2812)), ((nat_lit 640), (nat_lit 2826))] (nat_lit 2913)) := ok_table (dflt := 2869) (lo := 0) (hi := 40) (offs := #[180, 280, 380, 448, 515, 585, 641, 709, 803, 885, 965, 1040, 1122, 1202, 1294, 1352, 1365, 1421, 1489, 1557, 1613, 1626, 1682, 1738, 1794, 1886, 1966, 2034, 2090, 2158, 2214, 2277, 2357, 2425, 2500, 2513, 2593, 2649, 2727, 2768, 2782]) (len := 180) (md := zmd_0) zh_0 (by decide +kernel) (by decide +kernel) (by decide +kernel) (by decide +kernel)
theorem zr_0_1533 : zOK zPre 0 1533 (s_ld_1 (nat_lit 1136) (nat_lit 1534)) := zokE (zld_1 _ _) (ok_ld0 (t := 4) (i := 1) (zrow_aload_n (k := 1) (md := zmd_0) zh_0 (by decide +kernel) rfl rfl))
theorem zr_0_1534 : zOK zPre 0 1534 (s_ld_0 (nat_lit 1136) (nat_lit 1535)) := zokE (zld_0 _ _) (ok_ld0 (t := 4) (i := 0) (zrow_aload_n (k := 0) (md := zmd_0) zh_0 (by decide +kernel) rfl rfl))
theorem zr_0_1535 : zOK zPre 0 1535 (s_ld_5 (nat_lit 45067) (nat_lit 1537)) := zokE (zld_5 _ _) (ok_ld0 (t := 0) (i := 5) (zrow_iload (md := zmd_0) zh_0 (by decide +kernel) rfl))
theorem zr_0_1537 : zOK zPre 0 1537 (s_k (nat_lit 16) (nat_lit 1538)) := ok_iconst (n := 1) (md := zmd_0) zh_0 (by decide +kernel) rfl (by decide +kernel)
theorem zr_0_1538 : zOK zPre 0 1538 (s_iadd (nat_lit 1539)) := ok_iadd (md := zmd_0) zh_0 (by decide +kernel) rfl
theorem zr_0_1539 : zOK zPre 0 1539 (s_sld (nat_lit 1540)) := ok_sld (md := zmd_0) zh_0 (by decide +kernel) rfl
theorem zr_0_1540 : zOK zPre 0 1540 (s_ld_0 (nat_lit 1136) (nat_lit 1541)) := zokE (zld_0 _ _) (ok_ld0 (t := 4) (i := 0) (zrow_aload_n (k := 0) (md := zmd_0) zh_0 (by decide +kernel) rfl rfl))
theorem zr_0_1541 : zOK zPre 0 1541 (s_ld_5 (nat_lit 45067) (nat_lit 1543)) := zokE (zld_5 _ _) (ok_ld0 (t := 0) (i := 5) (zrow_iload (md := zmd_0) zh_0 (by decide +kernel) rfl))
theorem zr_0_1543 : zOK zPre 0 1543 (s_k (nat_lit 32) (nat_lit 1544)) := ok_iconst (n := 2) (md := zmd_0) zh_0 (by decide +kernel) rfl (by decide +kernel)
theorem zr_0_1544 : zOK zPre 0 1544 (s_iadd (nat_lit 1545)) := ok_iadd (md := zmd_0) zh_0 (by decide +kernel) rfl
theorem zr_0_1545 : zOK zPre 0 1545 (s_sld (nat_lit 1546)) := ok_sld (md := zmd_0) zh_0 (by decide +kernel) rfl
theorem zr_0_1546 : zOK zPre 0 1546 (s_ld_3 (nat_lit 1136) (nat_lit 1547)) := zokE (zld_3 _ _) (ok_ld0 (t := 4) (i := 3) (zrow_aload_n (k := 3) (md := zmd_0) zh_0 (by decide +kernel) rfl rfl))
theorem zr_0_1547 : zOK zPre 0 1547 (s_call (nat_lit 99) (nat_lit 169) (nat_lit 5) (nat_lit 4) (nat_lit 1) [] (nat_lit 1550)) := ok_call (md := zmd_0) zh_0 zh_169 rfl (by decide) (by decide) (Or.inl rfl) zp_169 (zrow_callSX (mdc := zmd_169) (index := 220) (md := zmd_0) zh_0 (by decide +kernel) rfl rfl zc_169 zw_4_209 zw_4_210 zw_1_0 zd_169) trivial
theorem zr_0_1550 : zOK zPre 0 1550 (s_s1 (nat_lit 45067) (nat_lit 6) (nat_lit 1552)) := ok_s10 (t := 0) (i := 6) (zrow_istore (md := zmd_0) zh_0 (by decide +kernel) rfl)
theorem zr_0_1552 : zOK zPre 0 1552 (s_ld_2 (nat_lit 1136) (nat_lit 1553)) := zokE (zld_2 _ _) (ok_ld0 (t := 4) (i := 2) (zrow_aload_n (k := 2) (md := zmd_0) zh_0 (by decide +kernel) rfl rfl))
theorem zr_0_1553 : zOK zPre 0 1553 (s_ld_0 (nat_lit 1136) (nat_lit 1554)) := zokE (zld_0 _ _) (ok_ld0 (t := 4) (i := 0) (zrow_aload_n (k := 0) (md := zmd_0) zh_0 (by decide +kernel) rfl rfl))
theorem zr_0_1554 : zOK zPre 0 1554 (s_ld_5 (nat_lit 45067) (nat_lit 1556)) := zokE (zld_5 _ _) (ok_ld0 (t := 0) (i := 5) (zrow_iload (md := zmd_0) zh_0 (by decide +kernel) rfl))
theorem zr_0_1556 : zOK zPre 0 1556 (s_k (nat_lit 16) (nat_lit 1557)) := ok_iconst (n := 1) (md := zmd_0) zh_0 (by decide +kernel) rfl (by decide +kernel)
theorem zr_0_1557 : zOK zPre 0 1557 (s_iadd (nat_lit 1558)) := ok_iadd (md := zmd_0) zh_0 (by decide +kernel) rfl
theorem zr_0_1558 : zOK zPre 0 1558 (s_sld (nat_lit 1559)) := ok_sld (md := zmd_0) zh_0 (by decide +kernel) rfl
theorem zr_0_1559 : zOK zPre 0 1559 (s_ld_0 (nat_lit 1136) (nat_lit 1560)) := zokE (zld_0 _ _) (ok_ld0 (t := 4) (i := 0) (zrow_aload_n (k := 0) (md := zmd_0) zh_0 (by decide +kernel) rfl rfl))
theorem zr_0_1560 : zOK zPre 0 1560 (s_ld_5 (nat_lit 45067) (nat_lit 1562)) := zokE (zld_5 _ _) (ok_ld0 (t := 0) (i := 5) (zrow_iload (md := zmd_0) zh_0 (by decide +kernel) rfl))
theorem zr_0_1562 : zOK zPre 0 1562 (s_k (nat_lit 32) (nat_lit 1563)) := ok_iconst (n := 2) (md := zmd_0) zh_0 (by decide +kernel) rfl (by decide +kernel)
theorem zr_0_1563 : zOK zPre 0 1563 (s_iadd (nat_lit 1564)) := ok_iadd (md := zmd_0) zh_0 (by decide +kernel) rfl
theorem zr_0_1564 : zOK zPre 0 1564 (s_sld (nat_lit 1565)) := ok_sld (md := zmd_0) zh_0 (by decide +kernel) rfl
theorem zr_0_1565 : zOK zPre 0 1565 (s_cdie (nat_lit 10) (nat_lit 173) (nat_lit 7) (nat_lit 3)) := ok_cdie (md := zmd_0) zh_0 zh_173 rfl (by decide) (Or.inr (by decide)) (by decide +kernel) rfl (zrow_dieV (mdc := zmd_173) (index := 222) (md := zmd_0) zh_0 (by decide +kernel) rfl rfl zc_173 rfl (by decide) zw_9_181 zw_9_182 zw_9_183 zw_1_10 zd_173)
end RowsOK
