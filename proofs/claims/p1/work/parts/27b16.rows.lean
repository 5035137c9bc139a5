section RowsOK
theorem zr_0_1950 : zOK zPre 0 1950 (s_call (nat_lit 99) (nat_lit 209) (nat_lit 6) (nat_lit 5) (nat_lit 1) [] (nat_lit 1953)) := ok_call (md := zmd_0) zh_0 zh_209 rfl (by decide) (by decide) (Or.inl rfl) zp_209 (zrow_callSX (mdc := zmd_209) (index := 242) (md := zmd_0) zh_0 (by decide +kernel) rfl rfl zc_209 zw_5_77 zw_5_78 zw_1_0 zd_209) trivial
theorem zr_0_1953 : zOK zPre 0 1953 (s_s1 (nat_lit 45067) (nat_lit 6) (nat_lit 1955)) := ok_s10 (t := 0) (i := 6) (zrow_istore (md := zmd_0) zh_0 (by decide +kernel) rfl)
theorem zr_0_1955 : zOK zPre 0 1955 (s_ld_2 (nat_lit 1136) (nat_lit 1956)) := zokE (zld_2 _ _) (ok_ld0 (t := 4) (i := 2) (zrow_aload_n (k := 2) (md := zmd_0) zh_0 (by decide +kernel) rfl rfl))
theorem zr_0_1956 : zOK zPre 0 1956 (s_ld_0 (nat_lit 1136) (nat_lit 1957)) := zokE (zld_0 _ _) (ok_ld0 (t := 4) (i := 0) (zrow_aload_n (k := 0) (md := zmd_0) zh_0 (by decide +kernel) rfl rfl))
theorem zr_0_1957 : zOK zPre 0 1957 (s_ld_5 (nat_lit 45067) (nat_lit 1959)) := zokE (zld_5 _ _) (ok_ld0 (t := 0) (i := 5) (zrow_iload (md := zmd_0) zh_0 (by decide +kernel) rfl))
theorem zr_0_1959 : zOK zPre 0 1959 (s_k (nat_lit 16) (nat_lit 1960)) := ok_iconst (n := 1) (md := zmd_0) zh_0 (by decide +kernel) rfl (by decide +kernel)
theorem zr_0_1960 : zOK zPre 0 1960 (s_iadd (nat_lit 1961)) := ok_iadd (md := zmd_0) zh_0 (by decide +kernel) rfl
theorem zr_0_1961 : zOK zPre 0 1961 (s_sld (nat_lit 1962)) := ok_sld (md := zmd_0) zh_0 (by decide +kernel) rfl
theorem zr_0_1962 : zOK zPre 0 1962 (s_ld_0 (nat_lit 1136) (nat_lit 1963)) := zokE (zld_0 _ _) (ok_ld0 (t := 4) (i := 0) (zrow_aload_n (k := 0) (md := zmd_0) zh_0 (by decide +kernel) rfl rfl))
theorem zr_0_1963 : zOK zPre 0 1963 (s_ld_5 (nat_lit 45067) (nat_lit 1965)) := zokE (zld_5 _ _) (ok_ld0 (t := 0) (i := 5) (zrow_iload (md := zmd_0) zh_0 (by decide +kernel) rfl))
theorem zr_0_1965 : zOK zPre 0 1965 (s_k (nat_lit 32) (nat_lit 1966)) := ok_iconst (n := 2) (md := zmd_0) zh_0 (by decide +kernel) rfl (by decide +kernel)
theorem zr_0_1966 : zOK zPre 0 1966 (s_iadd (nat_lit 1967)) := ok_iadd (md := zmd_0) zh_0 (by decide +kernel) rfl
theorem zr_0_1967 : zOK zPre 0 1967 (s_sld (nat_lit 1968)) := ok_sld (md := zmd_0) zh_0 (by decide +kernel) rfl
theorem zr_0_1968 : zOK zPre 0 1968 (s_ld_0 (nat_lit 1136) (nat_lit 1969)) := zokE (zld_0 _ _) (ok_ld0 (t := 4) (i := 0) (zrow_aload_n (k := 0) (md := zmd_0) zh_0 (by decide +kernel) rfl rfl))
theorem zr_0_1969 : zOK zPre 0 1969 (s_ld_5 (nat_lit 45067) (nat_lit 1971)) := zokE (zld_5 _ _) (ok_ld0 (t := 0) (i := 5) (zrow_iload (md := zmd_0) zh_0 (by decide +kernel) rfl))
theorem zr_0_1971 : zOK zPre 0 1971 (s_k (nat_lit 48) (nat_lit 1972)) := ok_iconst (n := 3) (md := zmd_0) zh_0 (by decide +kernel) rfl (by decide +kernel)
theorem zr_0_1972 : zOK zPre 0 1972 (s_iadd (nat_lit 1973)) := ok_iadd (md := zmd_0) zh_0 (by decide +kernel) rfl
theorem zr_0_1973 : zOK zPre 0 1973 (s_sld (nat_lit 1974)) := ok_sld (md := zmd_0) zh_0 (by decide +kernel) rfl
theorem zr_0_1974 : zOK zPre 0 1974 (s_call (nat_lit 10) (nat_lit 211) (nat_lit 5) (nat_lit 4) (nat_lit 1) [] (nat_lit 1977)) := ok_call (md := zmd_0) zh_0 zh_211 rfl (by decide) (by decide) (Or.inr (by decide)) zp_211 (zrow_callV (mdc := zmd_211) (index := 244) (md := zmd_0) zh_0 (by decide +kernel) rfl rfl zc_211 rfl (by decide) zw_10_123 zw_10_124 zw_10_125 zw_1_10 zd_211) trivial
theorem zr_0_1977 : zOK zPre 0 1977 (s_s1 (nat_lit 45067) (nat_lit 7) (nat_lit 1979)) := ok_s10 (t := 0) (i := 7) (zrow_istore (md := zmd_0) zh_0 (by decide +kernel) rfl)
theorem zr_0_1979 : zOK zPre 0 1979 (s_ld_2 (nat_lit 1136) (nat_lit 1980)) := zokE (zld_2 _ _) (ok_ld0 (t := 4) (i := 2) (zrow_aload_n (k := 2) (md := zmd_0) zh_0 (by decide +kernel) rfl rfl))
theorem zr_0_1980 : zOK zPre 0 1980 (s_call (nat_lit 10) (nat_lit 39) (nat_lit 1) (nat_lit 1) (nat_lit 1) [] (nat_lit 1983)) := ok_call (md := zmd_0) zh_0 zh_39 rfl (by decide) (by decide) (Or.inr (by decide)) zp_39 (zrow_callV (mdc := zmd_39) (index := 155) (md := zmd_0) zh_0 (by decide +kernel) rfl rfl zc_39 rfl (by decide) zw_7_66 zw_7_67 zw_7_68 zw_1_10 zd_39) trivial
theorem zr_0_1983 : zOK zPre 0 1983 (s_ld (nat_lit 45067) (nat_lit 6) (nat_lit 1985)) := ok_ld0 (t := 0) (i := 6) (zrow_iload (md := zmd_0) zh_0 (by decide +kernel) rfl)
theorem zr_0_1985 : zOK zPre 0 1985 (s_ic (nat_lit 0) zu_eq (nat_lit 1990) (nat_lit 1988)) := ok_ic_eq (off := 5) (md := zmd_0) zh_0 (by decide +kernel) (by decide +kernel) rfl
theorem zr_0_1990 : zOK zPre 0 1990 (s_ld (nat_lit 45067) (nat_lit 6) (nat_lit 1992)) := ok_ld0 (t := 0) (i := 6) (zrow_iload (md := zmd_0) zh_0 (by decide +kernel) rfl)
theorem zr_0_1992 : zOK zPre 0 1992 (s_if (nat_lit 1) zi_ne (nat_lit 2007) (nat_lit 1995)) := ok_if_ne (off := 15) (md := zmd_0) zh_0 (by decide +kernel) (by decide +kernel) rfl
theorem zr_0_2007 : zOK zPre 0 2007 (s_go (nat_lit 2913)) := ok_go (off := 906) (md := zmd_0) zh_0 (by decide +kernel) (by decide +kernel)
theorem zr_0_2010 : zOK zPre 0 2010 (s_ld_1 (nat_lit 1136) (nat_lit 2011)) := zokE (zld_1 _ _) (ok_ld0 (t := 4) (i := 1) (zrow_aload_n (k := 1) (md := zmd_0) zh_0 (by decide +kernel) rfl rfl))
theorem zr_0_2011 : zOK zPre 0 2011 (s_ld_0 (nat_lit 1136) (nat_lit 2012)) := zokE (zld_0 _ _) (ok_ld0 (t := 4) (i := 0) (zrow_aload_n (k := 0) (md := zmd_0) zh_0 (by decide +kernel) rfl rfl))
theorem zr_0_2012 : zOK zPre 0 2012 (s_ld_5 (nat_lit 45067) (nat_lit 2014)) := zokE (zld_5 _ _) (ok_ld0 (t := 0) (i := 5) (zrow_iload (md := zmd_0) zh_0 (by decide +kernel) rfl))
theorem zr_0_2014 : zOK zPre 0 2014 (s_k (nat_lit 16) (nat_lit 2015)) := ok_iconst (n := 1) (md := zmd_0) zh_0 (by decide +kernel) rfl (by decide +kernel)
theorem zr_0_2015 : zOK zPre 0 2015 (s_iadd (nat_lit 2016)) := ok_iadd (md := zmd_0) zh_0 (by decide +kernel) rfl
theorem zr_0_2016 : zOK zPre 0 2016 (s_sld (nat_lit 2017)) := ok_sld (md := zmd_0) zh_0 (by decide +kernel) rfl
theorem zr_0_2017 : zOK zPre 0 2017 (s_ld_0 (nat_lit 1136) (nat_lit 2018)) := zokE (zld_0 _ _) (ok_ld0 (t := 4) (i := 0) (zrow_aload_n (k := 0) (md := zmd_0) zh_0 (by decide +kernel) rfl rfl))
theorem zr_0_2018 : zOK zPre 0 2018 (s_ld_5 (nat_lit 45067) (nat_lit 2020)) := zokE (zld_5 _ _) (ok_ld0 (t := 0) (i := 5) (zrow_iload (md := zmd_0) zh_0 (by decide +kernel) rfl))
theorem zr_0_2020 : zOK zPre 0 2020 (s_k (nat_lit 32) (nat_lit 2021)) := ok_iconst (n := 2) (md := zmd_0) zh_0 (by decide +kernel) rfl (by decide +kernel)
theorem zr_0_2021 : zOK zPre 0 2021 (s_iadd (nat_lit 2022)) := ok_iadd (md := zmd_0) zh_0 (by decide +kernel) rfl
theorem zr_0_2022 : zOK zPre 0 2022 (s_sld (nat_lit 2023)) := ok_sld (md := zmd_0) zh_0 (by decide +kernel) rfl
theorem zr_0_2023 : zOK zPre 0 2023 (s_ld_3 (nat_lit 1136) (nat_lit 2024)) := zokE (zld_3 _ _) (ok_ld0 (t := 4) (i := 3) (zrow_aload_n (k := 3) (md := zmd_0) zh_0 (by decide +kernel) rfl rfl))
theorem zr_0_2024 : zOK zPre 0 2024 (s_call (nat_lit 99) (nat_lit 212) (nat_lit 5) (nat_lit 4) (nat_lit 1) [] (nat_lit 2027)) := ok_call (md := zmd_0) zh_0 zh_212 rfl (by decide) (by decide) (Or.inl rfl) zp_212 (zrow_callSX (mdc := zmd_212) (index := 245) (md := zmd_0) zh_0 (by decide +kernel) rfl rfl zc_212 zw_5_84 zw_5_85 zw_1_0 zd_212) trivial
theorem zr_0_2027 : zOK zPre 0 2027 (s_s1 (nat_lit 45067) (nat_lit 6) (nat_lit 2029)) := ok_s10 (t := 0) (i := 6) (zrow_istore (md := zmd_0) zh_0 (by decide +kernel) rfl)
theorem zr_0_2029 : zOK zPre 0 2029 (s_ld_2 (nat_lit 1136) (nat_lit 2030)) := zokE (zld_2 _ _) (ok_ld0 (t := 4) (i := 2) (zrow_aload_n (k := 2) (md := zmd_0) zh_0 (by decide +kernel) rfl rfl))
theorem zr_0_2030 : zOK zPre 0 2030 (s_ld_0 (nat_lit 1136) (nat_lit 2031)) := zokE (zld_0 _ _) (ok_ld0 (t := 4) (i := 0) (zrow_aload_n (k := 0) (md := zmd_0) zh_0 (by decide +kernel) rfl rfl))
theorem zr_0_2031 : zOK zPre 0 2031 (s_ld_5 (nat_lit 45067) (nat_lit 2033)) := zokE (zld_5 _ _) (ok_ld0 (t := 0) (i := 5) (zrow_iload (md := zmd_0) zh_0 (by decide +kernel) rfl))
theorem zr_0_2033 : zOK zPre 0 2033 (s_k (nat_lit 16) (nat_lit 2034)) := ok_iconst (n := 1) (md := zmd_0) zh_0 (by decide +kernel) rfl (by decide +kernel)
theorem zr_0_2034 : zOK zPre 0 2034 (s_iadd (nat_lit 2035)) := ok_iadd (md := zmd_0) zh_0 (by decide +kernel) rfl
theorem zr_0_2035 : zOK zPre 0 2035 (s_sld (nat_lit 2036)) := ok_sld (md := zmd_0) zh_0 (by decide +kernel) rfl
theorem zr_0_2036 : zOK zPre 0 2036 (s_ld_0 (nat_lit 1136) (nat_lit 2037)) := zokE (zld_0 _ _) (ok_ld0 (t := 4) (i := 0) (zrow_aload_n (k := 0) (md := zmd_0) zh_0 (by decide +kernel) rfl rfl))
theorem zr_0_2037 : zOK zPre 0 2037 (s_ld_5 (nat_lit 45067) (nat_lit 2039)) := zokE (zld_5 _ _) (ok_ld0 (t := 0) (i := 5) (zrow_iload (md := zmd_0) zh_0 (by decide +kernel) rfl))
theorem zr_0_2039 : zOK zPre 0 2039 (s_k (nat_lit 32) (nat_lit 2040)) := ok_iconst (n := 2) (md := zmd_0) zh_0 (by decide +kernel) rfl (by decide +kernel)
theorem zr_0_2040 : zOK zPre 0 2040 (s_iadd (nat_lit 2041)) := ok_iadd (md := zmd_0) zh_0 (by decide +kernel) rfl
theorem zr_0_2041 : zOK zPre 0 2041 (s_sld (nat_lit 2042)) := ok_sld (md := zmd_0) zh_0 (by decide +kernel) rfl
theorem zr_0_2042 : zOK zPre 0 2042 (s_call (nat_lit 10) (nat_lit 214) (nat_lit 7) (nat_lit 3) (nat_lit 1) [] (nat_lit 2045)) := ok_call (md := zmd_0) zh_0 zh_214 rfl (by decide) (by decide) (Or.inr (by decide)) zp_214 (zrow_callV (mdc := zmd_214) (index := 247) (md := zmd_0) zh_0 (by decide +kernel) rfl rfl zc_214 rfl (by decide) zw_10_127 zw_10_128 zw_10_129 zw_1_10 zd_214) trivial
theorem zr_0_2045 : zOK zPre 0 2045 (s_s1 (nat_lit 45067) (nat_lit 7) (nat_lit 2047)) := ok_s10 (t := 0) (i := 7) (zrow_istore (md := zmd_0) zh_0 (by decide +kernel) rfl)
theorem zr_0_2047 : zOK zPre 0 2047 (s_ld_2 (nat_lit 1136) (nat_lit 2048)) := zokE (zld_2 _ _) (ok_ld0 (t := 4) (i := 2) (zrow_aload_n (k := 2) (md := zmd_0) zh_0 (by decide +kernel) rfl rfl))
theorem zr_0_2048 : zOK zPre 0 2048 (s_call (nat_lit 10) (nat_lit 39) (nat_lit 1) (nat_lit 1) (nat_lit 1) [] (nat_lit 2051)) := ok_call (md := zmd_0) zh_0 zh_39 rfl (by decide) (by decide) (Or.inr (by decide)) zp_39 (zrow_callV (mdc := zmd_39) (index := 155) (md := zmd_0) zh_0 (by decide +kernel) rfl rfl zc_39 rfl (by decide) zw_7_66 zw_7_67 zw_7_68 zw_1_10 zd_39) trivial
theorem zr_0_2051 : zOK zPre 0 2051 (s_ld (nat_lit 45067) (nat_lit 6) (nat_lit 2053)) := ok_ld0 (t := 0) (i := 6) (zrow_iload (md := zmd_0) zh_0 (by decide +kernel) rfl)
theorem zr_0_2053 : zOK zPre 0 2053 (s_ic (nat_lit 0) zu_eq (nat_lit 2058) (nat_lit 2056)) := ok_ic_eq (off := 5) (md := zmd_0) zh_0 (by decide +kernel) (by decide +kernel) rfl
theorem zr_0_2058 : zOK zPre 0 2058 (s_ld (nat_lit 45067) (nat_lit 6) (nat_lit 2060)) := ok_ld0 (t := 0) (i := 6) (zrow_iload (md := zmd_0) zh_0 (by decide +kernel) rfl)
theorem zr_0_2060 : zOK zPre 0 2060 (s_if (nat_lit 1) zi_ne (nat_lit 2075) (nat_lit 2063)) := ok_if_ne (off := 15) (md := zmd_0) zh_0 (by decide +kernel) (by decide +kernel) rfl
theorem zr_0_2075 : zOK zPre 0 2075 (s_go (nat_lit 2913)) := ok_go (off := 838) (md := zmd_0) zh_0 (by decide +kernel) (by decide +kernel)
theorem zr_0_2078 : zOK zPre 0 2078 (s_ld_1 (nat_lit 1136) (nat_lit 2079)) := zokE (zld_1 _ _) (ok_ld0 (t := 4) (i := 1) (zrow_aload_n (k := 1) (md := zmd_0) zh_0 (by decide +kernel) rfl rfl))
theorem zr_0_2079 : zOK zPre 0 2079 (s_ld_0 (nat_lit 1136) (nat_lit 2080)) := zokE (zld_0 _ _) (ok_ld0 (t := 4) (i := 0) (zrow_aload_n (k := 0) (md := zmd_0) zh_0 (by decide +kernel) rfl rfl))
theorem zr_0_2080 : zOK zPre 0 2080 (s_ld_5 (nat_lit 45067) (nat_lit 2082)) := zokE (zld_5 _ _) (ok_ld0 (t := 0) (i := 5) (zrow_iload (md := zmd_0) zh_0 (by decide +kernel) rfl))
theorem zr_0_2082 : zOK zPre 0 2082 (s_k (nat_lit 16) (nat_lit 2083)) := ok_iconst (n := 1) (md := zmd_0) zh_0 (by decide +kernel) rfl (by decide +kernel)
theorem zr_0_2083 : zOK zPre 0 2083 (s_iadd (nat_lit 2084)) := ok_iadd (md := zmd_0) zh_0 (by decide +kernel) rfl
theorem zr_0_2084 : zOK zPre 0 2084 (s_sld (nat_lit 2085)) := ok_sld (md := zmd_0) zh_0 (by decide +kernel) rfl
theorem zr_0_2085 : zOK zPre 0 2085 (s_ld_3 (nat_lit 1136) (nat_lit 2086)) := zokE (zld_3 _ _) (ok_ld0 (t := 4) (i := 3) (zrow_aload_n (k := 3) (md := zmd_0) zh_0 (by decide +kernel) rfl rfl))
theorem zr_0_2086 : zOK zPre 0 2086 (s_call (nat_lit 99) (nat_lit 215) (nat_lit 4) (nat_lit 3) (nat_lit 1) [] (nat_lit 2089)) := ok_call (md := zmd_0) zh_0 zh_215 rfl (by decide) (by decide) (Or.inl rfl) zp_215 (zrow_callSX (mdc := zmd_215) (index := 248) (md := zmd_0) zh_0 (by decide +kernel) rfl rfl zc_215 zw_5_99 zw_5_100 zw_1_0 zd_215) trivial
theorem zr_0_2089 : zOK zPre 0 2089 (s_s1 (nat_lit 45067) (nat_lit 6) (nat_lit 2091)) := ok_s10 (t := 0) (i := 6) (zrow_istore (md := zmd_0) zh_0 (by decide +kernel) rfl)
theorem zr_0_2091 : zOK zPre 0 2091 (s_ld_2 (nat_lit 1136) (nat_lit 2092)) := zokE (zld_2 _ _) (ok_ld0 (t := 4) (i := 2) (zrow_aload_n (k := 2) (md := zmd_0) zh_0 (by decide +kernel) rfl rfl))
theorem zr_0_2092 : zOK zPre 0 2092 (s_ld_0 (nat_lit 1136) (nat_lit 2093)) := zokE (zld_0 _ _) (ok_ld0 (t := 4) (i := 0) (zrow_aload_n (k := 0) (md := zmd_0) zh_0 (by decide +kernel) rfl rfl))
theorem zr_0_2093 : zOK zPre 0 2093 (s_ld_5 (nat_lit 45067) (nat_lit 2095)) := zokE (zld_5 _ _) (ok_ld0 (t := 0) (i := 5) (zrow_iload (md := zmd_0) zh_0 (by decide +kernel) rfl))
theorem zr_0_2095 : zOK zPre 0 2095 (s_k (nat_lit 16) (nat_lit 2096)) := ok_iconst (n := 1) (md := zmd_0) zh_0 (by decide +kernel) rfl (by decide +kernel)
theorem zr_0_2096 : zOK zPre 0 2096 (s_iadd (nat_lit 2097)) := ok_iadd (md := zmd_0) zh_0 (by decide +kernel) rfl
theorem zr_0_2097 : zOK zPre 0 2097 (s_sld (nat_lit 2098)) := ok_sld (md := zmd_0) zh_0 (by decide +kernel) rfl
theorem zr_0_2098 : zOK zPre 0 2098 (s_call (nat_lit 10) (nat_lit 218) (nat_lit 2) (nat_lit 2) (nat_lit 1) [] (nat_lit 2101)) := ok_call (md := zmd_0) zh_0 zh_218 rfl (by decide) (by decide) (Or.inr (by decide)) zp_218 (zrow_callV (mdc := zmd_218) (index := 250) (md := zmd_0) zh_0 (by decide +kernel) rfl rfl zc_218 rfl (by decide) zw_10_134 zw_10_135 zw_10_136 zw_1_10 zd_218) trivial
theorem zr_0_2101 : zOK zPre 0 2101 (s_s1 (nat_lit 45067) (nat_lit 7) (nat_lit 2103)) := ok_s10 (t := 0) (i := 7) (zrow_istore (md := zmd_0) zh_0 (by decide +kernel) rfl)
theorem zr_0_2103 : zOK zPre 0 2103 (s_ld_2 (nat_lit 1136) (nat_lit 2104)) := zokE (zld_2 _ _) (ok_ld0 (t := 4) (i := 2) (zrow_aload_n (k := 2) (md := zmd_0) zh_0 (by decide +kernel) rfl rfl))
theorem zr_0_2104 : zOK zPre 0 2104 (s_call (nat_lit 10) (nat_lit 39) (nat_lit 1) (nat_lit 1) (nat_lit 1) [] (nat_lit 2107)) := ok_call (md := zmd_0) zh_0 zh_39 rfl (by decide) (by decide) (Or.inr (by decide)) zp_39 (zrow_callV (mdc := zmd_39) (index := 155) (md := zmd_0) zh_0 (by decide +kernel) rfl rfl zc_39 rfl (by decide) zw_7_66 zw_7_67 zw_7_68 zw_1_10 zd_39) trivial
theorem zr_0_2107 : zOK zPre 0 2107 (s_ld (nat_lit 45067) (nat_lit 6) (nat_lit 2109)) := ok_ld0 (t := 0) (i := 6) (zrow_iload (md := zmd_0) zh_0 (by decide +kernel) rfl)
theorem zr_0_2109 : zOK zPre 0 2109 (s_ic (nat_lit 0) zu_eq (nat_lit 2114) (nat_lit 2112)) := ok_ic_eq (off := 5) (md := zmd_0) zh_0 (by decide +kernel) (by decide +kernel) rfl
theorem zr_0_2114 : zOK zPre 0 2114 (s_ld (nat_lit 45067) (nat_lit 6) (nat_lit 2116)) := ok_ld0 (t := 0) (i := 6) (zrow_iload (md := zmd_0) zh_0 (by decide +kernel) rfl)
theorem zr_0_2116 : zOK zPre 0 2116 (s_if (nat_lit 1) zi_ne (nat_lit 2131) (nat_lit 2119)) := ok_if_ne (off := 15) (md := zmd_0) zh_0 (by decide +kernel) (by decide +kernel) rfl
theorem zr_0_2131 : zOK zPre 0 2131 (s_go (nat_lit 2913)) := ok_go (off := 782) (md := zmd_0) zh_0 (by decide +kernel) (by decide +kernel)
theorem zr_0_2134 : zOK zPre 0 2134 (s_ld_1 (nat_lit 1136) (nat_lit 2135)) := zokE (zld_1 _ _) (ok_ld0 (t := 4) (i := 1) (zrow_aload_n (k := 1) (md := zmd_0) zh_0 (by decide +kernel) rfl rfl))
theorem zr_0_2135 : zOK zPre 0 2135 (s_ld_0 (nat_lit 1136) (nat_lit 2136)) := zokE (zld_0 _ _) (ok_ld0 (t := 4) (i := 0) (zrow_aload_n (k := 0) (md := zmd_0) zh_0 (by decide +kernel) rfl rfl))
theorem zr_0_2136 : zOK zPre 0 2136 (s_ld_5 (nat_lit 45067) (nat_lit 2138)) := zokE (zld_5 _ _) (ok_ld0 (t := 0) (i := 5) (zrow_iload (md := zmd_0) zh_0 (by decide +kernel) rfl))
theorem zr_0_2138 : zOK zPre 0 2138 (s_k (nat_lit 16) (nat_lit 2139)) := ok_iconst (n := 1) (md := zmd_0) zh_0 (by decide +kernel) rfl (by decide +kernel)
theorem zr_0_2139 : zOK zPre 0 2139 (s_iadd (nat_lit 2140)) := ok_iadd (md := zmd_0) zh_0 (by decide +kernel) rfl
theorem zr_0_2140 : zOK zPre 0 2140 (s_sld (nat_lit 2141)) := ok_sld (md := zmd_0) zh_0 (by decide +kernel) rfl
theorem zr_0_2141 : zOK zPre 0 2141 (s_ld_0 (nat_lit 1136) (nat_lit 2142)) := zokE (zld_0 _ _) (ok_ld0 (t := 4) (i := 0) (zrow_aload_n (k := 0) (md := zmd_0) zh_0 (by decide +kernel) rfl rfl))
theorem zr_0_2142 : zOK zPre 0 2142 (s_ld_5 (nat_lit 45067) (nat_lit 2144)) := zokE (zld_5 _ _) (ok_ld0 (t := 0) (i := 5) (zrow_iload (md := zmd_0) zh_0 (by decide +kernel) rfl))
theorem zr_0_2144 : zOK zPre 0 2144 (s_k (nat_lit 32) (nat_lit 2145)) := ok_iconst (n := 2) (md := zmd_0) zh_0 (by decide +kernel) rfl (by decide +kernel)
theorem zr_0_2145 : zOK zPre 0 2145 (s_iadd (nat_lit 2146)) := ok_iadd (md := zmd_0) zh_0 (by decide +kernel) rfl
theorem zr_0_2146 : zOK zPre 0 2146 (s_sld (nat_lit 2147)) := ok_sld (md := zmd_0) zh_0 (by decide +kernel) rfl
theorem zr_0_2147 : zOK zPre 0 2147 (s_ld_3 (nat_lit 1136) (nat_lit 2148)) := zokE (zld_3 _ _) (ok_ld0 (t := 4) (i := 3) (zrow_aload_n (k := 3) (md := zmd_0) zh_0 (by decide +kernel) rfl rfl))
theorem zr_0_2148 : zOK zPre 0 2148 (s_call (nat_lit 99) (nat_lit 221) (nat_lit 5) (nat_lit 4) (nat_lit 1) [] (nat_lit 2151)) := ok_call (md := zmd_0) zh_0 zh_221 rfl (by decide) (by decide) (Or.inl rfl) zp_221 (zrow_callSX (mdc := zmd_221) (index := 251) (md := zmd_0) zh_0 (by decide +kernel) rfl rfl zc_221 zw_5_121 zw_5_122 zw_1_0 zd_221) trivial
theorem zr_0_2151 : zOK zPre 0 2151 (s_s1 (nat_lit 45067) (nat_lit 6) (nat_lit 2153)) := ok_s10 (t := 0) (i := 6) (zrow_istore (md := zmd_0) zh_0 (by decide +kernel) rfl)
theorem zr_0_2153 : zOK zPre 0 2153 (s_ld_2 (nat_lit 1136) (nat_lit 2154)) := zokE (zld_2 _ _) (ok_ld0 (t := 4) (i := 2) (zrow_aload_n (k := 2) (md := zmd_0) zh_0 (by decide +kernel) rfl rfl))
theorem zr_0_2154 : zOK zPre 0 2154 (s_ld_0 (nat_lit 1136) (nat_lit 2155)) := zokE (zld_0 _ _) (ok_ld0 (t := 4) (i := 0) (zrow_aload_n (k := 0) (md := zmd_0) zh_0 (by decide +kernel) rfl rfl))
theorem zr_0_2155 : zOK zPre 0 2155 (s_ld_5 (nat_lit 45067) (nat_lit 2157)) := zokE (zld_5 _ _) (ok_ld0 (t := 0) (i := 5) (zrow_iload (md := zmd_0) zh_0 (by decide +kernel) rfl))
theorem zr_0_2157 : zOK zPre 0 2157 (s_k (nat_lit 16) (nat_lit 2158)) := ok_iconst (n := 1) (md := zmd_0) zh_0 (by decide +kernel) rfl (by decide +kernel)
theorem zr_0_2158 : zOK zPre 0 2158 (s_iadd (nat_lit 2159)) := ok_iadd (md := zmd_0) zh_0 (by decide +kernel) rfl
theorem zr_0_2159 : zOK zPre 0 2159 (s_sld (nat_lit 2160)) := ok_sld (md := zmd_0) zh_0 (by decide +kernel) rfl
theorem zr_0_2160 : zOK zPre 0 2160 (s_ld_0 (nat_lit 1136) (nat_lit 2161)) := zokE (zld_0 _ _) (ok_ld0 (t := 4) (i := 0) (zrow_aload_n (k := 0) (md := zmd_0) zh_0 (by decide +kernel) rfl rfl))
theorem zr_0_2161 : zOK zPre 0 2161 (s_ld_5 (nat_lit 45067) (nat_lit 2163)) := zokE (zld_5 _ _) (ok_ld0 (t := 0) (i := 5) (zrow_iload (md := zmd_0) zh_0 (by decide +kernel) rfl))
theorem zr_0_2163 : zOK zPre 0 2163 (s_k (nat_lit 32) (nat_lit 2164)) := ok_iconst (n := 2) (md := zmd_0) zh_0 (by decide +kernel) rfl (by decide +kernel)
theorem zr_0_2164 : zOK zPre 0 2164 (s_iadd (nat_lit 2165)) := ok_iadd (md := zmd_0) zh_0 (by decide +kernel) rfl
theorem zr_0_2165 : zOK zPre 0 2165 (s_sld (nat_lit 2166)) := ok_sld (md := zmd_0) zh_0 (by decide +kernel) rfl
theorem zr_0_2166 : zOK zPre 0 2166 (s_call (nat_lit 10) (nat_lit 223) (nat_lit 4) (nat_lit 3) (nat_lit 1) [] (nat_lit 2169)) := ok_call (md := zmd_0) zh_0 zh_223 rfl (by decide) (by decide) (Or.inr (by decide)) zp_223 (zrow_callV (mdc := zmd_223) (index := 253) (md := zmd_0) zh_0 (by decide +kernel) rfl rfl zc_223 rfl (by decide) zw_10_148 zw_10_149 zw_10_150 zw_1_10 zd_223) trivial
theorem zr_0_2169 : zOK zPre 0 2169 (s_s1 (nat_lit 45067) (nat_lit 7) (nat_lit 2171)) := ok_s10 (t := 0) (i := 7) (zrow_istore (md := zmd_0) zh_0 (by decide +kernel) rfl)
theorem zr_0_2171 : zOK zPre 0 2171 (s_ld_2 (nat_lit 1136) (nat_lit 2172)) := zokE (zld_2 _ _) (ok_ld0 (t := 4) (i := 2) (zrow_aload_n (k := 2) (md := zmd_0) zh_0 (by decide +kernel) rfl rfl))
theorem zr_0_2172 : zOK zPre 0 2172 (s_call (nat_lit 10) (nat_lit 39) (nat_lit 1) (nat_lit 1) (nat_lit 1) [] (nat_lit 2175)) := ok_call (md := zmd_0) zh_0 zh_39 rfl (by decide) (by decide) (Or.inr (by decide)) zp_39 (zrow_callV (mdc := zmd_39) (index := 155) (md := zmd_0) zh_0 (by decide +kernel) rfl rfl zc_39 rfl (by decide) zw_7_66 zw_7_67 zw_7_68 zw_1_10 zd_39) trivial
theorem zr_0_2175 : zOK zPre 0 2175 (s_ld (nat_lit 45067) (nat_lit 6) (nat_lit 2177)) := ok_ld0 (t := 0) (i := 6) (zrow_iload (md := zmd_0) zh_0 (by decide +kernel) rfl)
theorem zr_0_2177 : zOK zPre 0 2177 (s_ic (nat_lit 0) zu_eq (nat_lit 2182) (nat_lit 2180)) := ok_ic_eq (off := 5) (md := zmd_0) zh_0 (by decide +kernel) (by decide +kernel) rfl
theorem zr_0_2182 : zOK zPre 0 2182 (s_ld (nat_lit 45067) (nat_lit 6) (nat_lit 2184)) := ok_ld0 (t := 0) (i := 6) (zrow_iload (md := zmd_0) zh_0 (by decide +kernel) rfl)
theorem zr_0_2184 : zOK zPre 0 2184 (s_if (nat_lit 1) zi_ne (nat_lit 2199) (nat_lit 2187)) := ok_if_ne (off := 15) (md := zmd_0) zh_0 (by decide +kernel) (by decide +kernel) rfl
theorem zr_0_2199 : zOK zPre 0 2199 (s_go (nat_lit 2913)) := ok_go (off := 714) (md := zmd_0) zh_0 (by decide +kernel) (by decide +kernel)
theorem zr_0_2202 : zOK zPre 0 2202 (s_ld_1 (nat_lit 1136) (nat_lit 2203)) := zokE (zld_1 _ _) (ok_ld0 (t := 4) (i := 1) (zrow_aload_n (k := 1) (md := zmd_0) zh_0 (by decide +kernel) rfl rfl))
theorem zr_0_2203 : zOK zPre 0 2203 (s_ld_0 (nat_lit 1136) (nat_lit 2204)) := zokE (zld_0 _ _) (ok_ld0 (t := 4) (i := 0) (zrow_aload_n (k := 0) (md := zmd_0) zh_0 (by decide +kernel) rfl rfl))
theorem zr_0_2204 : zOK zPre 0 2204 (s_ld_5 (nat_lit 45067) (nat_lit 2206)) := zokE (zld_5 _ _) (ok_ld0 (t := 0) (i := 5) (zrow_iload (md := zmd_0) zh_0 (by decide +kernel) rfl))
theorem zr_0_2206 : zOK zPre 0 2206 (s_k (nat_lit 16) (nat_lit 2207)) := ok_iconst (n := 1) (md := zmd_0) zh_0 (by decide +kernel) rfl (by decide +kernel)
theorem zr_0_2207 : zOK zPre 0 2207 (s_iadd (nat_lit 2208)) := ok_iadd (md := zmd_0) zh_0 (by decide +kernel) rfl
theorem zr_0_2208 : zOK zPre 0 2208 (s_sld (nat_lit 2209)) := ok_sld (md := zmd_0) zh_0 (by decide +kernel) rfl
theorem zr_0_2209 : zOK zPre 0 2209 (s_ld_3 (nat_lit 1136) (nat_lit 2210)) := zokE (zld_3 _ _) (ok_ld0 (t := 4) (i := 3) (zrow_aload_n (k := 3) (md := zmd_0) zh_0 (by decide +kernel) rfl rfl))
theorem zr_0_2210 : zOK zPre 0 2210 (s_call (nat_lit 99) (nat_lit 224) (nat_lit 4) (nat_lit 3) (nat_lit 1) [] (nat_lit 2213)) := ok_call (md := zmd_0) zh_0 zh_224 rfl (by decide) (by decide) (Or.inl rfl) zp_224 (zrow_callSX (mdc := zmd_224) (index := 254) (md := zmd_0) zh_0 (by decide +kernel) rfl rfl zc_224 zw_5_138 zw_5_139 zw_1_0 zd_224) trivial
theorem zr_0_2213 : zOK zPre 0 2213 (s_s1 (nat_lit 45067) (nat_lit 6) (nat_lit 2215)) := ok_s10 (t := 0) (i := 6) (zrow_istore (md := zmd_0) zh_0 (by decide +kernel) rfl)
theorem zr_0_2215 : zOK zPre 0 2215 (s_ld_2 (nat_lit 1136) (nat_lit 2216)) := zokE (zld_2 _ _) (ok_ld0 (t := 4) (i := 2) (zrow_aload_n (k := 2) (md := zmd_0) zh_0 (by decide +kernel) rfl rfl))
theorem zr_0_2216 : zOK zPre 0 2216 (s_ld_0 (nat_lit 1136) (nat_lit 2217)) := zokE (zld_0 _ _) (ok_ld0 (t := 4) (i := 0) (zrow_aload_n (k := 0) (md := zmd_0) zh_0 (by decide +kernel) rfl rfl))
theorem zr_0_2217 : zOK zPre 0 2217 (s_ld_5 (nat_lit 45067) (nat_lit 2219)) := zokE (zld_5 _ _) (ok_ld0 (t := 0) (i := 5) (zrow_iload (md := zmd_0) zh_0 (by decide +kernel) rfl))
theorem zr_0_2219 : zOK zPre 0 2219 (s_k (nat_lit 16) (nat_lit 2220)) := ok_iconst (n := 1) (md := zmd_0) zh_0 (by decide +kernel) rfl (by decide +kernel)
theorem zr_0_2220 : zOK zPre 0 2220 (s_iadd (nat_lit 2221)) := ok_iadd (md := zmd_0) zh_0 (by decide +kernel) rfl
theorem zr_0_2221 : zOK zPre 0 2221 (s_sld (nat_lit 2222)) := ok_sld (md := zmd_0) zh_0 (by decide +kernel) rfl
theorem zr_0_2222 : zOK zPre 0 2222 (s_call (nat_lit 10) (nat_lit 226) (nat_lit 5) (nat_lit 2) (nat_lit 1) [] (nat_lit 2225)) := ok_call (md := zmd_0) zh_0 zh_226 rfl (by decide) (by decide) (Or.inr (by decide)) zp_226 (zrow_callV (mdc := zmd_226) (index := 256) (md := zmd_0) zh_0 (by decide +kernel) rfl rfl zc_226 rfl (by decide) zw_10_159 zw_10_160 zw_10_161 zw_1_10 zd_226) trivial
theorem zr_0_2225 : zOK zPre 0 2225 (s_s1 (nat_lit 45067) (nat_lit 7) (nat_lit 2227)) := ok_s10 (t := 0) (i := 7) (zrow_istore (md := zmd_0) zh_0 (by decide +kernel) rfl)
theorem zr_0_2227 : zOK zPre 0 2227 (s_ld_2 (nat_lit 1136) (nat_lit 2228)) := zokE (zld_2 _ _) (ok_ld0 (t := 4) (i := 2) (zrow_aload_n (k := 2) (md := zmd_0) zh_0 (by decide +kernel) rfl rfl))
theorem zr_0_2228 : zOK zPre 0 2228 (s_call (nat_lit 10) (nat_lit 39) (nat_lit 1) (nat_lit 1) (nat_lit 1) [] (nat_lit 2231)) := ok_call (md := zmd_0) zh_0 zh_39 rfl (by decide) (by decide) (Or.inr (by decide)) zp_39 (zrow_callV (mdc := zmd_39) (index := 155) (md := zmd_0) zh_0 (by decide +kernel) rfl rfl zc_39 rfl (by decide) zw_7_66 zw_7_67 zw_7_68 zw_1_10 zd_39) trivial
theorem zr_0_2231 : zOK zPre 0 2231 (s_ld (nat_lit 45067) (nat_lit 6) (nat_lit 2233)) := ok_ld0 (t := 0) (i := 6) (zrow_iload (md := zmd_0) zh_0 (by decide +kernel) rfl)
theorem zr_0_2233 : zOK zPre 0 2233 (s_ic (nat_lit 0) zu_eq (nat_lit 2238) (nat_lit 2236)) := ok_ic_eq (off := 5) (md := zmd_0) zh_0 (by decide +kernel) (by decide +kernel) rfl
theorem zr_0_2238 : zOK zPre 0 2238 (s_ld (nat_lit 45067) (nat_lit 6) (nat_lit 2240)) := ok_ld0 (t := 0) (i := 6) (zrow_iload (md := zmd_0) zh_0 (by decide +kernel) rfl)
theorem zr_0_2240 : zOK zPre 0 2240 (s_if (nat_lit 1) zi_ne (nat_lit 2255) (nat_lit 2243)) := ok_if_ne (off := 15) (md := zmd_0) zh_0 (by decide +kernel) (by decide +kernel) rfl
theorem zr_0_2255 : zOK zPre 0 2255 (s_go (nat_lit 2913)) := ok_go (off := 658) (md := zmd_0) zh_0 (by decide +kernel) (by decide +kernel)
theorem zr_0_2258 : zOK zPre 0 2258 (s_ld_1 (nat_lit 1136) (nat_lit 2259)) := zokE (zld_1 _ _) (ok_ld0 (t := 4) (i := 1) (zrow_aload_n (k := 1) (md := zmd_0) zh_0 (by decide +kernel) rfl rfl))
theorem zr_0_2259 : zOK zPre 0 2259 (s_ld_0 (nat_lit 1136) (nat_lit 2260)) := zokE (zld_0 _ _) (ok_ld0 (t := 4) (i := 0) (zrow_aload_n (k := 0) (md := zmd_0) zh_0 (by decide +kernel) rfl rfl))
theorem zr_0_2260 : zOK zPre 0 2260 (s_ld_5 (nat_lit 45067) (nat_lit 2262)) := zokE (zld_5 _ _) (ok_ld0 (t := 0) (i := 5) (zrow_iload (md := zmd_0) zh_0 (by decide +kernel) rfl))
theorem zr_0_2262 : zOK zPre 0 2262 (s_k (nat_lit 16) (nat_lit 2263)) := ok_iconst (n := 1) (md := zmd_0) zh_0 (by decide +kernel) rfl (by decide +kernel)
theorem zr_0_2263 : zOK zPre 0 2263 (s_iadd (nat_lit 2264)) := ok_iadd (md := zmd_0) zh_0 (by decide +kernel) rfl
theorem zr_0_2264 : zOK zPre 0 2264 (s_sld (nat_lit 2265)) := ok_sld (md := zmd_0) zh_0 (by decide +kernel) rfl
theorem zr_0_2265 : zOK zPre 0 2265 (s_ld_3 (nat_lit 1136) (nat_lit 2266)) := zokE (zld_3 _ _) (ok_ld0 (t := 4) (i := 3) (zrow_aload_n (k := 3) (md := zmd_0) zh_0 (by decide +kernel) rfl rfl))
theorem zr_0_2266 : zOK zPre 0 2266 (s_call (nat_lit 99) (nat_lit 227) (nat_lit 4) (nat_lit 3) (nat_lit 1) [] (nat_lit 2269)) := ok_call (md := zmd_0) zh_0 zh_227 rfl (by decide) (by decide) (Or.inl rfl) zp_227 (zrow_callSX (mdc := zmd_227) (index := 257) (md := zmd_0) zh_0 (by decide +kernel) rfl rfl zc_227 zw_5_154 zw_5_155 zw_1_0 zd_227) trivial
theorem zr_0_2269 : zOK zPre 0 2269 (s_s1 (nat_lit 45067) (nat_lit 6) (nat_lit 2271)) := ok_s10 (t := 0) (i := 6) (zrow_istore (md := zmd_0) zh_0 (by decide +kernel) rfl)
theorem zr_0_2271 : zOK zPre 0 2271 (s_ld_2 (nat_lit 1136) (nat_lit 2272)) := zokE (zld_2 _ _) (ok_ld0 (t := 4) (i := 2) (zrow_aload_n (k := 2) (md := zmd_0) zh_0 (by decide +kernel) rfl rfl))
theorem zr_0_2272 : zOK zPre 0 2272 (s_ld_0 (nat_lit 1136) (nat_lit 2273)) := zokE (zld_0 _ _) (ok_ld0 (t := 4) (i := 0) (zrow_aload_n (k := 0) (md := zmd_0) zh_0 (by decide +kernel) rfl rfl))
theorem zr_0_2273 : zOK zPre 0 2273 (s_ld_5 (nat_lit 45067) (nat_lit 2275)) := zokE (zld_5 _ _) (ok_ld0 (t := 0) (i := 5) (zrow_iload (md := zmd_0) zh_0 (by decide +kernel) rfl))
theorem zr_0_2275 : zOK zPre 0 2275 (s_k (nat_lit 16) (nat_lit 2276)) := ok_iconst (n := 1) (md := zmd_0) zh_0 (by decide +kernel) rfl (by decide +kernel)
theorem zr_0_2276 : zOK zPre 0 2276 (s_iadd (nat_lit 2277)) := ok_iadd (md := zmd_0) zh_0 (by decide +kernel) rfl
theorem zr_0_2277 : zOK zPre 0 2277 (s_sld (nat_lit 2278)) := ok_sld (md := zmd_0) zh_0 (by decide +kernel) rfl
theorem zr_0_2278 : zOK zPre 0 2278 (s_call (nat_lit 10) (nat_lit 230) (nat_lit 2) (nat_lit 2) (nat_lit 1) [] (nat_lit 2281)) := ok_call (md := zmd_0) zh_0 zh_230 rfl (by decide) (by decide) (Or.inr (by decide)) zp_230 (zrow_callV (mdc := zmd_230) (index := 259) (md := zmd_0) zh_0 (by decide +kernel) rfl rfl zc_230 rfl (by decide) zw_10_163 zw_10_164 zw_10_165 zw_1_10 zd_230) trivial
theorem zr_0_2281 : zOK zPre 0 2281 (s_s1 (nat_lit 45067) (nat_lit 7) (nat_lit 2283)) := ok_s10 (t := 0) (i := 7) (zrow_istore (md := zmd_0) zh_0 (by decide +kernel) rfl)
theorem zr_0_2283 : zOK zPre 0 2283 (s_ld_2 (nat_lit 1136) (nat_lit 2284)) := zokE (zld_2 _ _) (ok_ld0 (t := 4) (i := 2) (zrow_aload_n (k := 2) (md := zmd_0) zh_0 (by decide +kernel) rfl rfl))
theorem zr_0_2284 : zOK zPre 0 2284 (s_call (nat_lit 10) (nat_lit 39) (nat_lit 1) (nat_lit 1) (nat_lit 1) [] (nat_lit 2287)) := ok_call (md := zmd_0) zh_0 zh_39 rfl (by decide) (by decide) (Or.inr (by decide)) zp_39 (zrow_callV (mdc := zmd_39) (index := 155) (md := zmd_0) zh_0 (by decide +kernel) rfl rfl zc_39 rfl (by decide) zw_7_66 zw_7_67 zw_7_68 zw_1_10 zd_39) trivial
theorem zr_0_2287 : zOK zPre 0 2287 (s_ld (nat_lit 45067) (nat_lit 6) (nat_lit 2289)) := ok_ld0 (t := 0) (i := 6) (zrow_iload (md := zmd_0) zh_0 (by decide +kernel) rfl)
theorem zr_0_2289 : zOK zPre 0 2289 (s_ic (nat_lit 0) zu_eq (nat_lit 2294) (nat_lit 2292)) := ok_ic_eq (off := 5) (md := zmd_0) zh_0 (by decide +kernel) (by decide +kernel) rfl
theorem zr_0_2294 : zOK zPre 0 2294 (s_ld (nat_lit 45067) (nat_lit 6) (nat_lit 2296)) := ok_ld0 (t := 0) (i := 6) (zrow_iload (md := zmd_0) zh_0 (by decide +kernel) rfl)
theorem zr_0_2296 : zOK zPre 0 2296 (s_if (nat_lit 1) zi_ne (nat_lit 2318) (nat_lit 2299)) := ok_if_ne (off := 22) (md := zmd_0) zh_0 (by decide +kernel) (by decide +kernel) rfl
theorem zr_0_2299 : zOK zPre 0 2299 (s_ld_3 (nat_lit 1136) (nat_lit 2300)) := zokE (zld_3 _ _) (ok_ld0 (t := 4) (i := 3) (zrow_aload_n (k := 3) (md := zmd_0) zh_0 (by decide +kernel) rfl rfl))
theorem zr_0_2300 : zOK zPre 0 2300 (s_k (nat_lit 0) (nat_lit 2301)) := ok_iconst (n := 0) (md := zmd_0) zh_0 (by decide +kernel) rfl (by decide +kernel)
theorem zr_0_2301 : zOK zPre 0 2301 (s_ald (nat_lit 21) (nat_lit 21) (nat_lit 2302)) := ok_ald0 (by decide) (by decide) (by decide) (zrow_laload (md := zmd_0) zh_0 (by decide +kernel) rfl)
theorem zr_0_2302 : zOK zPre 0 2302 (s_ld (nat_lit 45067) (nat_lit 7) (nat_lit 2304)) := ok_ld0 (t := 0) (i := 7) (zrow_iload (md := zmd_0) zh_0 (by decide +kernel) rfl)
theorem zr_0_2304 : zOK zPre 0 2304 (s_if (nat_lit 0) zi_eq (nat_lit 2311) (nat_lit 2307)) := ok_if_eq (off := 7) (md := zmd_0) zh_0 (by decide +kernel) (by decide +kernel) rfl
theorem zr_0_2311 : zOK zPre 0 2311 (s_k (nat_lit 2) (nat_lit 2312)) := ok_lconst (n := 0) (md := zmd_0) zh_0 (by decide +kernel) rfl (by decide +kernel)
theorem zr_0_2312 : zOK zPre 0 2312 (s_lcmp (nat_lit 2313)) := ok_lcmp (md := zmd_0) zh_0 (by decide +kernel) rfl
theorem zr_0_2313 : zOK zPre 0 2313 (s_if (nat_lit 0) zi_eq (nat_lit 2318) (nat_lit 2316)) := ok_if_eq (off := 5) (md := zmd_0) zh_0 (by decide +kernel) (by decide +kernel) rfl
theorem zr_0_2318 : zOK zPre 0 2318 (s_go (nat_lit 2913)) := ok_go (off := 595) (md := zmd_0) zh_0 (by decide +kernel) (by decide +kernel)
theorem zr_0_2321 : zOK zPre 0 2321 (s_ld_1 (nat_lit 1136) (nat_lit 2322)) := zokE (zld_1 _ _) (ok_ld0 (t := 4) (i := 1) (zrow_aload_n (k := 1) (md := zmd_0) zh_0 (by decide +kernel) rfl rfl))
theorem zr_0_2322 : zOK zPre 0 2322 (s_ld_0 (nat_lit 1136) (nat_lit 2323)) := zokE (zld_0 _ _) (ok_ld0 (t := 4) (i := 0) (zrow_aload_n (k := 0) (md := zmd_0) zh_0 (by decide +kernel) rfl rfl))
theorem zr_0_2323 : zOK zPre 0 2323 (s_ld_5 (nat_lit 45067) (nat_lit 2325)) := zokE (zld_5 _ _) (ok_ld0 (t := 0) (i := 5) (zrow_iload (md := zmd_0) zh_0 (by decide +kernel) rfl))
theorem zr_0_2325 : zOK zPre 0 2325 (s_k (nat_lit 16) (nat_lit 2326)) := ok_iconst (n := 1) (md := zmd_0) zh_0 (by decide +kernel) rfl (by decide +kernel)
theorem zr_0_2326 : zOK zPre 0 2326 (s_iadd (nat_lit 2327)) := ok_iadd (md := zmd_0) zh_0 (by decide +kernel) rfl
theorem zr_0_2327 : zOK zPre 0 2327 (s_sld (nat_lit 2328)) := ok_sld (md := zmd_0) zh_0 (by decide +kernel) rfl
theorem zr_0_2328 : zOK zPre 0 2328 (s_ld_0 (nat_lit 1136) (nat_lit 2329)) := zokE (zld_0 _ _) (ok_ld0 (t := 4) (i := 0) (zrow_aload_n (k := 0) (md := zmd_0) zh_0 (by decide +kernel) rfl rfl))
theorem zr_0_2329 : zOK zPre 0 2329 (s_ld_5 (nat_lit 45067) (nat_lit 2331)) := zokE (zld_5 _ _) (ok_ld0 (t := 0) (i := 5) (zrow_iload (md := zmd_0) zh_0 (by decide +kernel) rfl))
theorem zr_0_2331 : zOK zPre 0 2331 (s_k (nat_lit 32) (nat_lit 2332)) := ok_iconst (n := 2) (md := zmd_0) zh_0 (by decide +kernel) rfl (by decide +kernel)
theorem zr_0_2332 : zOK zPre 0 2332 (s_iadd (nat_lit 2333)) := ok_iadd (md := zmd_0) zh_0 (by decide +kernel) rfl
theorem zr_0_2333 : zOK zPre 0 2333 (s_sld (nat_lit 2334)) := ok_sld (md := zmd_0) zh_0 (by decide +kernel) rfl
theorem zr_0_2334 : zOK zPre 0 2334 (s_ld_0 (nat_lit 1136) (nat_lit 2335)) := zokE (zld_0 _ _) (ok_ld0 (t := 4) (i := 0) (zrow_aload_n (k := 0) (md := zmd_0) zh_0 (by decide +kernel) rfl rfl))
theorem zr_0_2335 : zOK zPre 0 2335 (s_ld_5 (nat_lit 45067) (nat_lit 2337)) := zokE (zld_5 _ _) (ok_ld0 (t := 0) (i := 5) (zrow_iload (md := zmd_0) zh_0 (by decide +kernel) rfl))
theorem zr_0_2337 : zOK zPre 0 2337 (s_k (nat_lit 48) (nat_lit 2338)) := ok_iconst (n := 3) (md := zmd_0) zh_0 (by decide +kernel) rfl (by decide +kernel)
theorem zr_0_2338 : zOK zPre 0 2338 (s_iadd (nat_lit 2339)) := ok_iadd (md := zmd_0) zh_0 (by decide +kernel) rfl
theorem zr_0_2339 : zOK zPre 0 2339 (s_sld (nat_lit 2340)) := ok_sld (md := zmd_0) zh_0 (by decide +kernel) rfl
theorem zr_0_2340 : zOK zPre 0 2340 (s_ld_3 (nat_lit 1136) (nat_lit 2341)) := zokE (zld_3 _ _) (ok_ld0 (t := 4) (i := 3) (zrow_aload_n (k := 3) (md := zmd_0) zh_0 (by decide +kernel) rfl rfl))
theorem zr_0_2341 : zOK zPre 0 2341 (s_call (nat_lit 99) (nat_lit 232) (nat_lit 6) (nat_lit 5) (nat_lit 1) [] (nat_lit 2344)) := ok_call (md := zmd_0) zh_0 zh_232 rfl (by decide) (by decide) (Or.inl rfl) zp_232 (zrow_callSX (mdc := zmd_232) (index := 260) (md := zmd_0) zh_0 (by decide +kernel) rfl rfl zc_232 zw_5_166 zw_5_167 zw_1_0 zd_232) trivial
theorem zr_0_2344 : zOK zPre 0 2344 (s_s1 (nat_lit 45067) (nat_lit 6) (nat_lit 2346)) := ok_s10 (t := 0) (i := 6) (zrow_istore (md := zmd_0) zh_0 (by decide +kernel) rfl)
theorem zr_0_2346 : zOK zPre 0 2346 (s_ld_2 (nat_lit 1136) (nat_lit 2347)) := zokE (zld_2 _ _) (ok_ld0 (t := 4) (i := 2) (zrow_aload_n (k := 2) (md := zmd_0) zh_0 (by decide +kernel) rfl rfl))
theorem zr_0_2347 : zOK zPre 0 2347 (s_ld_0 (nat_lit 1136) (nat_lit 2348)) := zokE (zld_0 _ _) (ok_ld0 (t := 4) (i := 0) (zrow_aload_n (k := 0) (md := zmd_0) zh_0 (by decide +kernel) rfl rfl))
theorem zr_0_2348 : zOK zPre 0 2348 (s_ld_5 (nat_lit 45067) (nat_lit 2350)) := zokE (zld_5 _ _) (ok_ld0 (t := 0) (i := 5) (zrow_iload (md := zmd_0) zh_0 (by decide +kernel) rfl))
theorem zr_0_2350 : zOK zPre 0 2350 (s_k (nat_lit 16) (nat_lit 2351)) := ok_iconst (n := 1) (md := zmd_0) zh_0 (by decide +kernel) rfl (by decide +kernel)
theorem zr_0_2351 : zOK zPre 0 2351 (s_iadd (nat_lit 2352)) := ok_iadd (md := zmd_0) zh_0 (by decide +kernel) rfl
theorem zr_0_2352 : zOK zPre 0 2352 (s_sld (nat_lit 2353)) := ok_sld (md := zmd_0) zh_0 (by decide +kernel) rfl
theorem zr_0_2353 : zOK zPre 0 2353 (s_ld_0 (nat_lit 1136) (nat_lit 2354)) := zokE (zld_0 _ _) (ok_ld0 (t := 4) (i := 0) (zrow_aload_n (k := 0) (md := zmd_0) zh_0 (by decide +kernel) rfl rfl))
theorem zr_0_2354 : zOK zPre 0 2354 (s_ld_5 (nat_lit 45067) (nat_lit 2356)) := zokE (zld_5 _ _) (ok_ld0 (t := 0) (i := 5) (zrow_iload (md := zmd_0) zh_0 (by decide +kernel) rfl))
theorem zr_0_2356 : zOK zPre 0 2356 (s_k (nat_lit 32) (nat_lit 2357)) := ok_iconst (n := 2) (md := zmd_0) zh_0 (by decide +kernel) rfl (by decide +kernel)
theorem zr_0_2357 : zOK zPre 0 2357 (s_iadd (nat_lit 2358)) := ok_iadd (md := zmd_0) zh_0 (by decide +kernel) rfl
theorem zr_0_2358 : zOK zPre 0 2358 (s_sld (nat_lit 2359)) := ok_sld (md := zmd_0) zh_0 (by decide +kernel) rfl
theorem zr_0_2359 : zOK zPre 0 2359 (s_ld_0 (nat_lit 1136) (nat_lit 2360)) := zokE (zld_0 _ _) (ok_ld0 (t := 4) (i := 0) (zrow_aload_n (k := 0) (md := zmd_0) zh_0 (by decide +kernel) rfl rfl))
theorem zr_0_2360 : zOK zPre 0 2360 (s_ld_5 (nat_lit 45067) (nat_lit 2362)) := zokE (zld_5 _ _) (ok_ld0 (t := 0) (i := 5) (zrow_iload (md := zmd_0) zh_0 (by decide +kernel) rfl))
theorem zr_0_2362 : zOK zPre 0 2362 (s_k (nat_lit 48) (nat_lit 2363)) := ok_iconst (n := 3) (md := zmd_0) zh_0 (by decide +kernel) rfl (by decide +kernel)
theorem zr_0_2363 : zOK zPre 0 2363 (s_iadd (nat_lit 2364)) := ok_iadd (md := zmd_0) zh_0 (by decide +kernel) rfl
theorem zr_0_2364 : zOK zPre 0 2364 (s_sld (nat_lit 2365)) := ok_sld (md := zmd_0) zh_0 (by decide +kernel) rfl
theorem zr_0_2365 : zOK zPre 0 2365 (s_call (nat_lit 10) (nat_lit 234) (nat_lit 7) (nat_lit 4) (nat_lit 1) [] (nat_lit 2368)) := ok_call (md := zmd_0) zh_0 zh_234 rfl (by decide) (by decide) (Or.inr (by decide)) zp_234 (zrow_callV (mdc := zmd_234) (index := 262) (md := zmd_0) zh_0 (by decide +kernel) rfl rfl zc_234 rfl (by decide) zw_10_171 zw_10_172 zw_10_173 zw_1_10 zd_234) trivial
theorem zr_0_2368 : zOK zPre 0 2368 (s_s1 (nat_lit 45067) (nat_lit 7) (nat_lit 2370)) := ok_s10 (t := 0) (i := 7) (zrow_istore (md := zmd_0) zh_0 (by decide +kernel) rfl)
theorem zr_0_2370 : zOK zPre 0 2370 (s_ld_2 (nat_lit 1136) (nat_lit 2371)) := zokE (zld_2 _ _) (ok_ld0 (t := 4) (i := 2) (zrow_aload_n (k := 2) (md := zmd_0) zh_0 (by decide +kernel) rfl rfl))
theorem zr_0_2371 : zOK zPre 0 2371 (s_call (nat_lit 10) (nat_lit 39) (nat_lit 1) (nat_lit 1) (nat_lit 1) [] (nat_lit 2374)) := ok_call (md := zmd_0) zh_0 zh_39 rfl (by decide) (by decide) (Or.inr (by decide)) zp_39 (zrow_callV (mdc := zmd_39) (index := 155) (md := zmd_0) zh_0 (by decide +kernel) rfl rfl zc_39 rfl (by decide) zw_7_66 zw_7_67 zw_7_68 zw_1_10 zd_39) trivial
theorem zr_0_2374 : zOK zPre 0 2374 (s_ld (nat_lit 45067) (nat_lit 6) (nat_lit 2376)) := ok_ld0 (t := 0) (i := 6) (zrow_iload (md := zmd_0) zh_0 (by decide +kernel) rfl)
theorem zr_0_2376 : zOK zPre 0 2376 (s_ic (nat_lit 0) zu_eq (nat_lit 2381) (nat_lit 2379)) := ok_ic_eq (off := 5) (md := zmd_0) zh_0 (by decide +kernel) (by decide +kernel) rfl
theorem zr_0_2381 : zOK zPre 0 2381 (s_ld (nat_lit 45067) (nat_lit 6) (nat_lit 2383)) := ok_ld0 (t := 0) (i := 6) (zrow_iload (md := zmd_0) zh_0 (by decide +kernel) rfl)
theorem zr_0_2383 : zOK zPre 0 2383 (s_if (nat_lit 1) zi_ne (nat_lit 2398) (nat_lit 2386)) := ok_if_ne (off := 15) (md := zmd_0) zh_0 (by decide +kernel) (by decide +kernel) rfl
theorem zr_0_2398 : zOK zPre 0 2398 (s_go (nat_lit 2913)) := ok_go (off := 515) (md := zmd_0) zh_0 (by decide +kernel) (by decide +kernel)
theorem zr_0_2401 : zOK zPre 0 2401 (s_ld_1 (nat_lit 1136) (nat_lit 2402)) := zokE (zld_1 _ _) (ok_ld0 (t := 4) (i := 1) (zrow_aload_n (k := 1) (md := zmd_0) zh_0 (by decide +kernel) rfl rfl))
theorem zr_0_2402 : zOK zPre 0 2402 (s_ld_0 (nat_lit 1136) (nat_lit 2403)) := zokE (zld_0 _ _) (ok_ld0 (t := 4) (i := 0) (zrow_aload_n (k := 0) (md := zmd_0) zh_0 (by decide +kernel) rfl rfl))
theorem zr_0_2403 : zOK zPre 0 2403 (s_ld_5 (nat_lit 45067) (nat_lit 2405)) := zokE (zld_5 _ _) (ok_ld0 (t := 0) (i := 5) (zrow_iload (md := zmd_0) zh_0 (by decide +kernel) rfl))
theorem zr_0_2405 : zOK zPre 0 2405 (s_k (nat_lit 16) (nat_lit 2406)) := ok_iconst (n := 1) (md := zmd_0) zh_0 (by decide +kernel) rfl (by decide +kernel)
theorem zr_0_2406 : zOK zPre 0 2406 (s_iadd (nat_lit 2407)) := ok_iadd (md := zmd_0) zh_0 (by decide +kernel) rfl
theorem zr_0_2407 : zOK zPre 0 2407 (s_sld (nat_lit 2408)) := ok_sld (md := zmd_0) zh_0 (by decide +kernel) rfl
theorem zr_0_2408 : zOK zPre 0 2408 (s_ld_0 (nat_lit 1136) (nat_lit 2409)) := zokE (zld_0 _ _) (ok_ld0 (t := 4) (i := 0) (zrow_aload_n (k := 0) (md := zmd_0) zh_0 (by decide +kernel) rfl rfl))
theorem zr_0_2409 : zOK zPre 0 2409 (s_ld_5 (nat_lit 45067) (nat_lit 2411)) := zokE (zld_5 _ _) (ok_ld0 (t := 0) (i := 5) (zrow_iload (md := zmd_0) zh_0 (by decide +kernel) rfl))
theorem zr_0_2411 : zOK zPre 0 2411 (s_k (nat_lit 32) (nat_lit 2412)) := ok_iconst (n := 2) (md := zmd_0) zh_0 (by decide +kernel) rfl (by decide +kernel)
theorem zr_0_2412 : zOK zPre 0 2412 (s_iadd (nat_lit 2413)) := ok_iadd (md := zmd_0) zh_0 (by decide +kernel) rfl
theorem zr_0_2413 : zOK zPre 0 2413 (s_sld (nat_lit 2414)) := ok_sld (md := zmd_0) zh_0 (by decide +kernel) rfl
theorem zr_0_2414 : zOK zPre 0 2414 (s_ld_3 (nat_lit 1136) (nat_lit 2415)) := zokE (zld_3 _ _) (ok_ld0 (t := 4) (i := 3) (zrow_aload_n (k := 3) (md := zmd_0) zh_0 (by decide +kernel) rfl rfl))
theorem zr_0_2415 : zOK zPre 0 2415 (s_call (nat_lit 99) (nat_lit 235) (nat_lit 5) (nat_lit 4) (nat_lit 1) [] (nat_lit 2418)) := ok_call (md := zmd_0) zh_0 zh_235 rfl (by decide) (by decide) (Or.inl rfl) zp_235 (zrow_callSX (mdc := zmd_235) (index := 263) (md := zmd_0) zh_0 (by decide +kernel) rfl rfl zc_235 zw_5_203 zw_5_204 zw_1_0 zd_235) trivial
theorem zr_0_2418 : zOK zPre 0 2418 (s_s1 (nat_lit 45067) (nat_lit 6) (nat_lit 2420)) := ok_s10 (t := 0) (i := 6) (zrow_istore (md := zmd_0) zh_0 (by decide +kernel) rfl)
theorem zr_0_2420 : zOK zPre 0 2420 (s_ld_2 (nat_lit 1136) (nat_lit 2421)) := zokE (zld_2 _ _) (ok_ld0 (t := 4) (i := 2) (zrow_aload_n (k := 2) (md := zmd_0) zh_0 (by decide +kernel) rfl rfl))
theorem zr_0_2421 : zOK zPre 0 2421 (s_ld_0 (nat_lit 1136) (nat_lit 2422)) := zokE (zld_0 _ _) (ok_ld0 (t := 4) (i := 0) (zrow_aload_n (k := 0) (md := zmd_0) zh_0 (by decide +kernel) rfl rfl))
theorem zr_0_2422 : zOK zPre 0 2422 (s_ld_5 (nat_lit 45067) (nat_lit 2424)) := zokE (zld_5 _ _) (ok_ld0 (t := 0) (i := 5) (zrow_iload (md := zmd_0) zh_0 (by decide +kernel) rfl))
theorem zr_0_2424 : zOK zPre 0 2424 (s_k (nat_lit 16) (nat_lit 2425)) := ok_iconst (n := 1) (md := zmd_0) zh_0 (by decide +kernel) rfl (by decide +kernel)
theorem zr_0_2425 : zOK zPre 0 2425 (s_iadd (nat_lit 2426)) := ok_iadd (md := zmd_0) zh_0 (by decide +kernel) rfl
theorem zr_0_2426 : zOK zPre 0 2426 (s_sld (nat_lit 2427)) := ok_sld (md := zmd_0) zh_0 (by decide +kernel) rfl
theorem zr_0_2427 : zOK zPre 0 2427 (s_ld_0 (nat_lit 1136) (nat_lit 2428)) := zokE (zld_0 _ _) (ok_ld0 (t := 4) (i := 0) (zrow_aload_n (k := 0) (md := zmd_0) zh_0 (by decide +kernel) rfl rfl))
theorem zr_0_2428 : zOK zPre 0 2428 (s_ld_5 (nat_lit 45067) (nat_lit 2430)) := zokE (zld_5 _ _) (ok_ld0 (t := 0) (i := 5) (zrow_iload (md := zmd_0) zh_0 (by decide +kernel) rfl))
theorem zr_0_2430 : zOK zPre 0 2430 (s_k (nat_lit 32) (nat_lit 2431)) := ok_iconst (n := 2) (md := zmd_0) zh_0 (by decide +kernel) rfl (by decide +kernel)
theorem zr_0_2431 : zOK zPre 0 2431 (s_iadd (nat_lit 2432)) := ok_iadd (md := zmd_0) zh_0 (by decide +kernel) rfl
theorem zr_0_2432 : zOK zPre 0 2432 (s_sld (nat_lit 2433)) := ok_sld (md := zmd_0) zh_0 (by decide +kernel) rfl
theorem zr_0_2433 : zOK zPre 0 2433 (s_call (nat_lit 10) (nat_lit 237) (nat_lit 3) (nat_lit 3) (nat_lit 1) [] (nat_lit 2436)) := ok_call (md := zmd_0) zh_0 zh_237 rfl (by decide) (by decide) (Or.inr (by decide)) zp_237 (zrow_callV (mdc := zmd_237) (index := 265) (md := zmd_0) zh_0 (by decide +kernel) rfl rfl zc_237 rfl (by decide) zw_10_175 zw_10_176 zw_10_177 zw_1_10 zd_237) trivial
theorem zr_0_2436 : zOK zPre 0 2436 (s_s1 (nat_lit 45067) (nat_lit 7) (nat_lit 2438)) := ok_s10 (t := 0) (i := 7) (zrow_istore (md := zmd_0) zh_0 (by decide +kernel) rfl)
theorem zr_0_2438 : zOK zPre 0 2438 (s_ld_2 (nat_lit 1136) (nat_lit 2439)) := zokE (zld_2 _ _) (ok_ld0 (t := 4) (i := 2) (zrow_aload_n (k := 2) (md := zmd_0) zh_0 (by decide +kernel) rfl rfl))
theorem zr_0_2439 : zOK zPre 0 2439 (s_call (nat_lit 10) (nat_lit 39) (nat_lit 1) (nat_lit 1) (nat_lit 1) [] (nat_lit 2442)) := ok_call (md := zmd_0) zh_0 zh_39 rfl (by decide) (by decide) (Or.inr (by decide)) zp_39 (zrow_callV (mdc := zmd_39) (index := 155) (md := zmd_0) zh_0 (by decide +kernel) rfl rfl zc_39 rfl (by decide) zw_7_66 zw_7_67 zw_7_68 zw_1_10 zd_39) trivial
theorem zr_0_2442 : zOK zPre 0 2442 (s_ld (nat_lit 45067) (nat_lit 6) (nat_lit 2444)) := ok_ld0 (t := 0) (i := 6) (zrow_iload (md := zmd_0) zh_0 (by decide +kernel) rfl)
theorem zr_0_2444 : zOK zPre 0 2444 (s_ic (nat_lit 0) zu_eq (nat_lit 2449) (nat_lit 2447)) := ok_ic_eq (off := 5) (md := zmd_0) zh_0 (by decide +kernel) (by decide +kernel) rfl
theorem zr_0_2449 : zOK zPre 0 2449 (s_ld (nat_lit 45067) (nat_lit 6) (nat_lit 2451)) := ok_ld0 (t := 0) (i := 6) (zrow_iload (md := zmd_0) zh_0 (by decide +kernel) rfl)
theorem zr_0_2451 : zOK zPre 0 2451 (s_if (nat_lit 1) zi_ne (nat_lit 2466) (nat_lit 2454)) := ok_if_ne (off := 15) (md := zmd_0) zh_0 (by decide +kernel) (by decide +kernel) rfl
theorem zr_0_2466 : zOK zPre 0 2466 (s_go (nat_lit 2913)) := ok_go (off := 447) (md := zmd_0) zh_0 (by decide +kernel) (by decide +kernel)
theorem zr_0_2469 : zOK zPre 0 2469 (s_ld_1 (nat_lit 1136) (nat_lit 2470)) := zokE (zld_1 _ _) (ok_ld0 (t := 4) (i := 1) (zrow_aload_n (k := 1) (md := zmd_0) zh_0 (by decide +kernel) rfl rfl))
theorem zr_0_2470 : zOK zPre 0 2470 (s_ld_0 (nat_lit 1136) (nat_lit 2471)) := zokE (zld_0 _ _) (ok_ld0 (t := 4) (i := 0) (zrow_aload_n (k := 0) (md := zmd_0) zh_0 (by decide +kernel) rfl rfl))
theorem zr_0_2471 : zOK zPre 0 2471 (s_ld_5 (nat_lit 45067) (nat_lit 2473)) := zokE (zld_5 _ _) (ok_ld0 (t := 0) (i := 5) (zrow_iload (md := zmd_0) zh_0 (by decide +kernel) rfl))
theorem zr_0_2473 : zOK zPre 0 2473 (s_k (nat_lit 16) (nat_lit 2474)) := ok_iconst (n := 1) (md := zmd_0) zh_0 (by decide +kernel) rfl (by decide +kernel)
theorem zr_0_2474 : zOK zPre 0 2474 (s_iadd (nat_lit 2475)) := ok_iadd (md := zmd_0) zh_0 (by decide +kernel) rfl
theorem zr_0_2475 : zOK zPre 0 2475 (s_sld (nat_lit 2476)) := ok_sld (md := zmd_0) zh_0 (by decide +kernel) rfl
theorem zr_0_2476 : zOK zPre 0 2476 (s_ld_0 (nat_lit 1136) (nat_lit 2477)) := zokE (zld_0 _ _) (ok_ld0 (t := 4) (i := 0) (zrow_aload_n (k := 0) (md := zmd_0) zh_0 (by decide +kernel) rfl rfl))
theorem zr_0_2477 : zOK zPre 0 2477 (s_ld_5 (nat_lit 45067) (nat_lit 2479)) := zokE (zld_5 _ _) (ok_ld0 (t := 0) (i := 5) (zrow_iload (md := zmd_0) zh_0 (by decide +kernel) rfl))
theorem zr_0_2479 : zOK zPre 0 2479 (s_k (nat_lit 32) (nat_lit 2480)) := ok_iconst (n := 2) (md := zmd_0) zh_0 (by decide +kernel) rfl (by decide +kernel)
theorem zr_0_2480 : zOK zPre 0 2480 (s_iadd (nat_lit 2481)) := ok_iadd (md := zmd_0) zh_0 (by decide +kernel) rfl
theorem zr_0_2481 : zOK zPre 0 2481 (s_sld (nat_lit 2482)) := ok_sld (md := zmd_0) zh_0 (by decide +kernel) rfl
theorem zr_0_2482 : zOK zPre 0 2482 (s_ld_3 (nat_lit 1136) (nat_lit 2483)) := zokE (zld_3 _ _) (ok_ld0 (t := 4) (i := 3) (zrow_aload_n (k := 3) (md := zmd_0) zh_0 (by decide +kernel) rfl rfl))
theorem zr_0_2483 : zOK zPre 0 2483 (s_call (nat_lit 99) (nat_lit 238) (nat_lit 5) (nat_lit 4) (nat_lit 1) [] (nat_lit 2486)) := ok_call (md := zmd_0) zh_0 zh_238 rfl (by decide) (by decide) (Or.inl rfl) zp_238 (zrow_callSX (mdc := zmd_238) (index := 266) (md := zmd_0) zh_0 (by decide +kernel) rfl rfl zc_238 zw_5_221 zw_5_222 zw_1_0 zd_238) trivial
theorem zr_0_2486 : zOK zPre 0 2486 (s_s1 (nat_lit 45067) (nat_lit 6) (nat_lit 2488)) := ok_s10 (t := 0) (i := 6) (zrow_istore (md := zmd_0) zh_0 (by decide +kernel) rfl)
theorem zr_0_2488 : zOK zPre 0 2488 (s_ld_2 (nat_lit 1136) (nat_lit 2489)) := zokE (zld_2 _ _) (ok_ld0 (t := 4) (i := 2) (zrow_aload_n (k := 2) (md := zmd_0) zh_0 (by decide +kernel) rfl rfl))
theorem zr_0_2489 : zOK zPre 0 2489 (s_ld_0 (nat_lit 1136) (nat_lit 2490)) := zokE (zld_0 _ _) (ok_ld0 (t := 4) (i := 0) (zrow_aload_n (k := 0) (md := zmd_0) zh_0 (by decide +kernel) rfl rfl))
theorem zr_0_2490 : zOK zPre 0 2490 (s_ld_5 (nat_lit 45067) (nat_lit 2492)) := zokE (zld_5 _ _) (ok_ld0 (t := 0) (i := 5) (zrow_iload (md := zmd_0) zh_0 (by decide +kernel) rfl))
theorem zr_0_2492 : zOK zPre 0 2492 (s_k (nat_lit 16) (nat_lit 2493)) := ok_iconst (n := 1) (md := zmd_0) zh_0 (by decide +kernel) rfl (by decide +kernel)
theorem zr_0_2493 : zOK zPre 0 2493 (s_iadd (nat_lit 2494)) := ok_iadd (md := zmd_0) zh_0 (by decide +kernel) rfl
theorem zr_0_2494 : zOK zPre 0 2494 (s_sld (nat_lit 2495)) := ok_sld (md := zmd_0) zh_0 (by decide +kernel) rfl
theorem zr_0_2495 : zOK zPre 0 2495 (s_ld_0 (nat_lit 1136) (nat_lit 2496)) := zokE (zld_0 _ _) (ok_ld0 (t := 4) (i := 0) (zrow_aload_n (k := 0) (md := zmd_0) zh_0 (by decide +kernel) rfl rfl))
theorem zr_0_2496 : zOK zPre 0 2496 (s_ld_5 (nat_lit 45067) (nat_lit 2498)) := zokE (zld_5 _ _) (ok_ld0 (t := 0) (i := 5) (zrow_iload (md := zmd_0) zh_0 (by decide +kernel) rfl))
theorem zr_0_2498 : zOK zPre 0 2498 (s_k (nat_lit 32) (nat_lit 2499)) := ok_iconst (n := 2) (md := zmd_0) zh_0 (by decide +kernel) rfl (by decide +kernel)
theorem zr_0_2499 : zOK zPre 0 2499 (s_iadd (nat_lit 2500)) := ok_iadd (md := zmd_0) zh_0 (by decide +kernel) rfl
theorem zr_0_2500 : zOK zPre 0 2500 (s_sld (nat_lit 2501)) := ok_sld (md := zmd_0) zh_0 (by decide +kernel) rfl
theorem zr_0_2501 : zOK zPre 0 2501 (s_call (nat_lit 10) (nat_lit 242) (nat_lit 10) (nat_lit 3) (nat_lit 1) [] (nat_lit 2504)) := ok_call (md := zmd_0) zh_0 zh_242 rfl (by decide) (by decide) (Or.inr (by decide)) zp_242 (zrow_callV (mdc := zmd_242) (index := 268) (md := zmd_0) zh_0 (by decide +kernel) rfl rfl zc_242 rfl (by decide) zw_10_179 zw_10_180 zw_10_181 zw_1_10 zd_242) trivial
theorem zr_0_2504 : zOK zPre 0 2504 (s_s1 (nat_lit 45067) (nat_lit 7) (nat_lit 2506)) := ok_s10 (t := 0) (i := 7) (zrow_istore (md := zmd_0) zh_0 (by decide +kernel) rfl)
theorem zr_0_2506 : zOK zPre 0 2506 (s_ld_2 (nat_lit 1136) (nat_lit 2507)) := zokE (zld_2 _ _) (ok_ld0 (t := 4) (i := 2) (zrow_aload_n (k := 2) (md := zmd_0) zh_0 (by decide +kernel) rfl rfl))
theorem zr_0_2507 : zOK zPre 0 2507 (s_call (nat_lit 10) (nat_lit 39) (nat_lit 1) (nat_lit 1) (nat_lit 1) [] (nat_lit 2510)) := ok_call (md := zmd_0) zh_0 zh_39 rfl (by decide) (by decide) (Or.inr (by decide)) zp_39 (zrow_callV (mdc := zmd_39) (index := 155) (md := zmd_0) zh_0 (by decide +kernel) rfl rfl zc_39 rfl (by decide) zw_7_66 zw_7_67 zw_7_68 zw_1_10 zd_39) trivial
theorem zr_0_2510 : zOK zPre 0 2510 (s_ld (nat_lit 45067) (nat_lit 6) (nat_lit 2512)) := ok_ld0 (t := 0) (i := 6) (zrow_iload (md := zmd_0) zh_0 (by decide +kernel) rfl)
theorem zr_0_2512 : zOK zPre 0 2512 (s_ic (nat_lit 0) zu_eq (nat_lit 2517) (nat_lit 2515)) := ok_ic_eq (off := 5) (md := zmd_0) zh_0 (by decide +kernel) (by decide +kernel) rfl
theorem zr_0_2517 : zOK zPre 0 2517 (s_ld (nat_lit 45067) (nat_lit 6) (nat_lit 2519)) := ok_ld0 (t := 0) (i := 6) (zrow_iload (md := zmd_0) zh_0 (by decide +kernel) rfl)
theorem zr_0_2519 : zOK zPre 0 2519 (s_if (nat_lit 1) zi_ne (nat_lit 2541) (nat_lit 2522)) := ok_if_ne (off := 22) (md := zmd_0) zh_0 (by decide +kernel) (by decide +kernel) rfl
theorem zr_0_2522 : zOK zPre 0 2522 (s_ld_3 (nat_lit 1136) (nat_lit 2523)) := zokE (zld_3 _ _) (ok_ld0 (t := 4) (i := 3) (zrow_aload_n (k := 3) (md := zmd_0) zh_0 (by decide +kernel) rfl rfl))
theorem zr_0_2523 : zOK zPre 0 2523 (s_k (nat_lit 0) (nat_lit 2524)) := ok_iconst (n := 0) (md := zmd_0) zh_0 (by decide +kernel) rfl (by decide +kernel)
theorem zr_0_2524 : zOK zPre 0 2524 (s_ald (nat_lit 21) (nat_lit 21) (nat_lit 2525)) := ok_ald0 (by decide) (by decide) (by decide) (zrow_laload (md := zmd_0) zh_0 (by decide +kernel) rfl)
theorem zr_0_2525 : zOK zPre 0 2525 (s_ld (nat_lit 45067) (nat_lit 7) (nat_lit 2527)) := ok_ld0 (t := 0) (i := 7) (zrow_iload (md := zmd_0) zh_0 (by decide +kernel) rfl)
theorem zr_0_2527 : zOK zPre 0 2527 (s_if (nat_lit 0) zi_eq (nat_lit 2534) (nat_lit 2530)) := ok_if_eq (off := 7) (md := zmd_0) zh_0 (by decide +kernel) (by decide +kernel) rfl
theorem zr_0_2530 : zOK zPre 0 2530 (s_k (nat_lit 18) (nat_lit 2531)) := ok_lconst (n := 1) (md := zmd_0) zh_0 (by decide +kernel) rfl (by decide +kernel)
theorem zr_0_2531 : zOK zPre 0 2531 (s_go (nat_lit 2535)) := ok_go (off := 4) (md := zmd_0) zh_0 (by decide +kernel) (by decide +kernel)
theorem zr_0_2535 : zOK zPre 0 2535 (s_lcmp (nat_lit 2536)) := ok_lcmp (md := zmd_0) zh_0 (by decide +kernel) rfl
theorem zr_0_2536 : zOK zPre 0 2536 (s_if (nat_lit 0) zi_eq (nat_lit 2541) (nat_lit 2539)) := ok_if_eq (off := 5) (md := zmd_0) zh_0 (by decide +kernel) (by decide +kernel) rfl
theorem zr_0_2541 : zOK zPre 0 2541 (s_go (nat_lit 2913)) := ok_go (off := 372) (md := zmd_0) zh_0 (by decide +kernel) (by decide +kernel)
theorem zr_0_2544 : zOK zPre 0 2544 (s_ld_1 (nat_lit 1136) (nat_lit 2545)) := zokE (zld_1 _ _) (ok_ld0 (t := 4) (i := 1) (zrow_aload_n (k := 1) (md := zmd_0) zh_0 (by decide +kernel) rfl rfl))
theorem zr_0_2545 : zOK zPre 0 2545 (s_call (nat_lit 8) (nat_lit 244) (nat_lit 2) (nat_lit 1) (nat_lit 1) [] (nat_lit 2548)) := ok_call (md := zmd_0) zh_0 zh_244 rfl (by decide) (by decide) (Or.inr (by decide)) zp_244 (zrow_callV (mdc := zmd_244) (index := 269) (md := zmd_0) zh_0 (by decide +kernel) rfl rfl zc_244 rfl (by decide) zw_2_164 zw_2_165 zw_2_166 zw_1_1 zd_244) trivial
theorem zr_0_2548 : zOK zPre 0 2548 (s_ld_2 (nat_lit 1136) (nat_lit 2549)) := zokE (zld_2 _ _) (ok_ld0 (t := 4) (i := 2) (zrow_aload_n (k := 2) (md := zmd_0) zh_0 (by decide +kernel) rfl rfl))
theorem zr_0_2549 : zOK zPre 0 2549 (s_call (nat_lit 10) (nat_lit 245) (nat_lit 2) (nat_lit 1) (nat_lit 1) [] (nat_lit 2552)) := ok_call (md := zmd_0) zh_0 zh_245 rfl (by decide) (by decide) (Or.inr (by decide)) zp_245 (zrow_callV (mdc := zmd_245) (index := 272) (md := zmd_0) zh_0 (by decide +kernel) rfl rfl zc_245 rfl (by decide) zw_10_187 zw_10_188 zw_10_189 zw_1_10 zd_245) trivial
theorem zr_0_2552 : zOK zPre 0 2552 (s_ic (nat_lit 0) zu_eq (nat_lit 2913) (nat_lit 2555)) := ok_ic_eq (off := 361) (md := zmd_0) zh_0 (by decide +kernel) (by decide +kernel) rfl
theorem zr_0_2557 : zOK zPre 0 2557 (s_ld_1 (nat_lit 1136) (nat_lit 2558)) := zokE (zld_1 _ _) (ok_ld0 (t := 4) (i := 1) (zrow_aload_n (k := 1) (md := zmd_0) zh_0 (by decide +kernel) rfl rfl))
theorem zr_0_2558 : zOK zPre 0 2558 (s_ld_0 (nat_lit 1136) (nat_lit 2559)) := zokE (zld_0 _ _) (ok_ld0 (t := 4) (i := 0) (zrow_aload_n (k := 0) (md := zmd_0) zh_0 (by decide +kernel) rfl rfl))
theorem zr_0_2559 : zOK zPre 0 2559 (s_ld_5 (nat_lit 45067) (nat_lit 2561)) := zokE (zld_5 _ _) (ok_ld0 (t := 0) (i := 5) (zrow_iload (md := zmd_0) zh_0 (by decide +kernel) rfl))
theorem zr_0_2561 : zOK zPre 0 2561 (s_k (nat_lit 16) (nat_lit 2562)) := ok_iconst (n := 1) (md := zmd_0) zh_0 (by decide +kernel) rfl (by decide +kernel)
theorem zr_0_2562 : zOK zPre 0 2562 (s_iadd (nat_lit 2563)) := ok_iadd (md := zmd_0) zh_0 (by decide +kernel) rfl
theorem zr_0_2563 : zOK zPre 0 2563 (s_sld (nat_lit 2564)) := ok_sld (md := zmd_0) zh_0 (by decide +kernel) rfl
theorem zr_0_2564 : zOK zPre 0 2564 (s_ld_0 (nat_lit 1136) (nat_lit 2565)) := zokE (zld_0 _ _) (ok_ld0 (t := 4) (i := 0) (zrow_aload_n (k := 0) (md := zmd_0) zh_0 (by decide +kernel) rfl rfl))
theorem zr_0_2565 : zOK zPre 0 2565 (s_ld_5 (nat_lit 45067) (nat_lit 2567)) := zokE (zld_5 _ _) (ok_ld0 (t := 0) (i := 5) (zrow_iload (md := zmd_0) zh_0 (by decide +kernel) rfl))
theorem zr_0_2567 : zOK zPre 0 2567 (s_k (nat_lit 32) (nat_lit 2568)) := ok_iconst (n := 2) (md := zmd_0) zh_0 (by decide +kernel) rfl (by decide +kernel)
theorem zr_0_2568 : zOK zPre 0 2568 (s_iadd (nat_lit 2569)) := ok_iadd (md := zmd_0) zh_0 (by decide +kernel) rfl
theorem zr_0_2569 : zOK zPre 0 2569 (s_sld (nat_lit 2570)) := ok_sld (md := zmd_0) zh_0 (by decide +kernel) rfl
theorem zr_0_2570 : zOK zPre 0 2570 (s_ld_0 (nat_lit 1136) (nat_lit 2571)) := zokE (zld_0 _ _) (ok_ld0 (t := 4) (i := 0) (zrow_aload_n (k := 0) (md := zmd_0) zh_0 (by decide +kernel) rfl rfl))
theorem zr_0_2571 : zOK zPre 0 2571 (s_ld_5 (nat_lit 45067) (nat_lit 2573)) := zokE (zld_5 _ _) (ok_ld0 (t := 0) (i := 5) (zrow_iload (md := zmd_0) zh_0 (by decide +kernel) rfl))
theorem zr_0_2573 : zOK zPre 0 2573 (s_k (nat_lit 48) (nat_lit 2574)) := ok_iconst (n := 3) (md := zmd_0) zh_0 (by decide +kernel) rfl (by decide +kernel)
theorem zr_0_2574 : zOK zPre 0 2574 (s_iadd (nat_lit 2575)) := ok_iadd (md := zmd_0) zh_0 (by decide +kernel) rfl
theorem zr_0_2575 : zOK zPre 0 2575 (s_sld (nat_lit 2576)) := ok_sld (md := zmd_0) zh_0 (by decide +kernel) rfl
theorem zr_0_2576 : zOK zPre 0 2576 (s_ld_3 (nat_lit 1136) (nat_lit 2577)) := zokE (zld_3 _ _) (ok_ld0 (t := 4) (i := 3) (zrow_aload_n (k := 3) (md := zmd_0) zh_0 (by decide +kernel) rfl rfl))
theorem zr_0_2577 : zOK zPre 0 2577 (s_call (nat_lit 99) (nat_lit 246) (nat_lit 6) (nat_lit 5) (nat_lit 1) [] (nat_lit 2580)) := ok_call (md := zmd_0) zh_0 zh_246 rfl (by decide) (by decide) (Or.inl rfl) zp_246 (zrow_callSX (mdc := zmd_246) (index := 273) (md := zmd_0) zh_0 (by decide +kernel) rfl rfl zc_246 zw_6_5 zw_6_6 zw_1_0 zd_246) trivial
theorem zr_0_2580 : zOK zPre 0 2580 (s_s1 (nat_lit 45067) (nat_lit 6) (nat_lit 2582)) := ok_s10 (t := 0) (i := 6) (zrow_istore (md := zmd_0) zh_0 (by decide +kernel) rfl)
theorem zr_0_2582 : zOK zPre 0 2582 (s_ld_2 (nat_lit 1136) (nat_lit 2583)) := zokE (zld_2 _ _) (ok_ld0 (t := 4) (i := 2) (zrow_aload_n (k := 2) (md := zmd_0) zh_0 (by decide +kernel) rfl rfl))
theorem zr_0_2583 : zOK zPre 0 2583 (s_ld_0 (nat_lit 1136) (nat_lit 2584)) := zokE (zld_0 _ _) (ok_ld0 (t := 4) (i := 0) (zrow_aload_n (k := 0) (md := zmd_0) zh_0 (by decide +kernel) rfl rfl))
theorem zr_0_2584 : zOK zPre 0 2584 (s_ld_5 (nat_lit 45067) (nat_lit 2586)) := zokE (zld_5 _ _) (ok_ld0 (t := 0) (i := 5) (zrow_iload (md := zmd_0) zh_0 (by decide +kernel) rfl))
theorem zr_0_2586 : zOK zPre 0 2586 (s_k (nat_lit 16) (nat_lit 2587)) := ok_iconst (n := 1) (md := zmd_0) zh_0 (by decide +kernel) rfl (by decide +kernel)
theorem zr_0_2587 : zOK zPre 0 2587 (s_iadd (nat_lit 2588)) := ok_iadd (md := zmd_0) zh_0 (by decide +kernel) rfl
theorem zr_0_2588 : zOK zPre 0 2588 (s_sld (nat_lit 2589)) := ok_sld (md := zmd_0) zh_0 (by decide +kernel) rfl
theorem zr_0_2589 : zOK zPre 0 2589 (s_ld_0 (nat_lit 1136) (nat_lit 2590)) := zokE (zld_0 _ _) (ok_ld0 (t := 4) (i := 0) (zrow_aload_n (k := 0) (md := zmd_0) zh_0 (by decide +kernel) rfl rfl))
theorem zr_0_2590 : zOK zPre 0 2590 (s_ld_5 (nat_lit 45067) (nat_lit 2592)) := zokE (zld_5 _ _) (ok_ld0 (t := 0) (i := 5) (zrow_iload (md := zmd_0) zh_0 (by decide +kernel) rfl))
theorem zr_0_2592 : zOK zPre 0 2592 (s_k (nat_lit 32) (nat_lit 2593)) := ok_iconst (n := 2) (md := zmd_0) zh_0 (by decide +kernel) rfl (by decide +kernel)
theorem zr_0_2593 : zOK zPre 0 2593 (s_iadd (nat_lit 2594)) := ok_iadd (md := zmd_0) zh_0 (by decide +kernel) rfl
theorem zr_0_2594 : zOK zPre 0 2594 (s_sld (nat_lit 2595)) := ok_sld (md := zmd_0) zh_0 (by decide +kernel) rfl
theorem zr_0_2595 : zOK zPre 0 2595 (s_ld_0 (nat_lit 1136) (nat_lit 2596)) := zokE (zld_0 _ _) (ok_ld0 (t := 4) (i := 0) (zrow_aload_n (k := 0) (md := zmd_0) zh_0 (by decide +kernel) rfl rfl))
theorem zr_0_2596 : zOK zPre 0 2596 (s_ld_5 (nat_lit 45067) (nat_lit 2598)) := zokE (zld_5 _ _) (ok_ld0 (t := 0) (i := 5) (zrow_iload (md := zmd_0) zh_0 (by decide +kernel) rfl))
theorem zr_0_2598 : zOK zPre 0 2598 (s_k (nat_lit 48) (nat_lit 2599)) := ok_iconst (n := 3) (md := zmd_0) zh_0 (by decide +kernel) rfl (by decide +kernel)
theorem zr_0_2599 : zOK zPre 0 2599 (s_iadd (nat_lit 2600)) := ok_iadd (md := zmd_0) zh_0 (by decide +kernel) rfl
theorem zr_0_2600 : zOK zPre 0 2600 (s_sld (nat_lit 2601)) := ok_sld (md := zmd_0) zh_0 (by decide +kernel) rfl
theorem zr_0_2601 : zOK zPre 0 2601 (s_call (nat_lit 10) (nat_lit 248) (nat_lit 4) (nat_lit 4) (nat_lit 1) [] (nat_lit 2604)) := ok_call (md := zmd_0) zh_0 zh_248 rfl (by decide) (by decide) (Or.inr (by decide)) zp_248 (zrow_callV (mdc := zmd_248) (index := 275) (md := zmd_0) zh_0 (by decide +kernel) rfl rfl zc_248 rfl (by decide) zw_10_191 zw_10_192 zw_10_193 zw_1_10 zd_248) trivial
theorem zr_0_2604 : zOK zPre 0 2604 (s_s1 (nat_lit 45067) (nat_lit 7) (nat_lit 2606)) := ok_s10 (t := 0) (i := 7) (zrow_istore (md := zmd_0) zh_0 (by decide +kernel) rfl)
theorem zr_0_2606 : zOK zPre 0 2606 (s_ld_2 (nat_lit 1136) (nat_lit 2607)) := zokE (zld_2 _ _) (ok_ld0 (t := 4) (i := 2) (zrow_aload_n (k := 2) (md := zmd_0) zh_0 (by decide +kernel) rfl rfl))
theorem zr_0_2607 : zOK zPre 0 2607 (s_call (nat_lit 10) (nat_lit 39) (nat_lit 1) (nat_lit 1) (nat_lit 1) [] (nat_lit 2610)) := ok_call (md := zmd_0) zh_0 zh_39 rfl (by decide) (by decide) (Or.inr (by decide)) zp_39 (zrow_callV (mdc := zmd_39) (index := 155) (md := zmd_0) zh_0 (by decide +kernel) rfl rfl zc_39 rfl (by decide) zw_7_66 zw_7_67 zw_7_68 zw_1_10 zd_39) trivial
theorem zr_0_2610 : zOK zPre 0 2610 (s_ld (nat_lit 45067) (nat_lit 6) (nat_lit 2612)) := ok_ld0 (t := 0) (i := 6) (zrow_iload (md := zmd_0) zh_0 (by decide +kernel) rfl)
theorem zr_0_2612 : zOK zPre 0 2612 (s_ic (nat_lit 0) zu_eq (nat_lit 2617) (nat_lit 2615)) := ok_ic_eq (off := 5) (md := zmd_0) zh_0 (by decide +kernel) (by decide +kernel) rfl
theorem zr_0_2617 : zOK zPre 0 2617 (s_ld (nat_lit 45067) (nat_lit 6) (nat_lit 2619)) := ok_ld0 (t := 0) (i := 6) (zrow_iload (md := zmd_0) zh_0 (by decide +kernel) rfl)
theorem zr_0_2619 : zOK zPre 0 2619 (s_if (nat_lit 1) zi_ne (nat_lit 2634) (nat_lit 2622)) := ok_if_ne (off := 15) (md := zmd_0) zh_0 (by decide +kernel) (by decide +kernel) rfl
theorem zr_0_2622 : zOK zPre 0 2622 (s_ld_3 (nat_lit 1136) (nat_lit 2623)) := zokE (zld_3 _ _) (ok_ld0 (t := 4) (i := 3) (zrow_aload_n (k := 3) (md := zmd_0) zh_0 (by decide +kernel) rfl rfl))
theorem zr_0_2623 : zOK zPre 0 2623 (s_k (nat_lit 0) (nat_lit 2624)) := ok_iconst (n := 0) (md := zmd_0) zh_0 (by decide +kernel) rfl (by decide +kernel)
theorem zr_0_2624 : zOK zPre 0 2624 (s_ald (nat_lit 21) (nat_lit 21) (nat_lit 2625)) := ok_ald0 (by decide) (by decide) (by decide) (zrow_laload (md := zmd_0) zh_0 (by decide +kernel) rfl)
theorem zr_0_2625 : zOK zPre 0 2625 (s_ld (nat_lit 45067) (nat_lit 7) (nat_lit 2627)) := ok_ld0 (t := 0) (i := 7) (zrow_iload (md := zmd_0) zh_0 (by decide +kernel) rfl)
theorem zr_0_2627 : zOK zPre 0 2627 (s_i2l (nat_lit 2628)) := ok_i2l (md := zmd_0) zh_0 (by decide +kernel) rfl
theorem zr_0_2628 : zOK zPre 0 2628 (s_lcmp (nat_lit 2629)) := ok_lcmp (md := zmd_0) zh_0 (by decide +kernel) rfl
theorem zr_0_2629 : zOK zPre 0 2629 (s_if (nat_lit 0) zi_eq (nat_lit 2634) (nat_lit 2632)) := ok_if_eq (off := 5) (md := zmd_0) zh_0 (by decide +kernel) (by decide +kernel) rfl
theorem zr_0_2634 : zOK zPre 0 2634 (s_go (nat_lit 2913)) := ok_go (off := 279) (md := zmd_0) zh_0 (by decide +kernel) (by decide +kernel)
theorem zr_0_2637 : zOK zPre 0 2637 (s_ld_1 (nat_lit 1136) (nat_lit 2638)) := zokE (zld_1 _ _) (ok_ld0 (t := 4) (i := 1) (zrow_aload_n (k := 1) (md := zmd_0) zh_0 (by decide +kernel) rfl rfl))
theorem zr_0_2638 : zOK zPre 0 2638 (s_ld_0 (nat_lit 1136) (nat_lit 2639)) := zokE (zld_0 _ _) (ok_ld0 (t := 4) (i := 0) (zrow_aload_n (k := 0) (md := zmd_0) zh_0 (by decide +kernel) rfl rfl))
theorem zr_0_2639 : zOK zPre 0 2639 (s_ld_5 (nat_lit 45067) (nat_lit 2641)) := zokE (zld_5 _ _) (ok_ld0 (t := 0) (i := 5) (zrow_iload (md := zmd_0) zh_0 (by decide +kernel) rfl))
theorem zr_0_2641 : zOK zPre 0 2641 (s_k (nat_lit 16) (nat_lit 2642)) := ok_iconst (n := 1) (md := zmd_0) zh_0 (by decide +kernel) rfl (by decide +kernel)
theorem zr_0_2642 : zOK zPre 0 2642 (s_iadd (nat_lit 2643)) := ok_iadd (md := zmd_0) zh_0 (by decide +kernel) rfl
theorem zr_0_2643 : zOK zPre 0 2643 (s_sld (nat_lit 2644)) := ok_sld (md := zmd_0) zh_0 (by decide +kernel) rfl
theorem zr_0_2644 : zOK zPre 0 2644 (s_ld_3 (nat_lit 1136) (nat_lit 2645)) := zokE (zld_3 _ _) (ok_ld0 (t := 4) (i := 3) (zrow_aload_n (k := 3) (md := zmd_0) zh_0 (by decide +kernel) rfl rfl))
theorem zr_0_2645 : zOK zPre 0 2645 (s_call (nat_lit 99) (nat_lit 249) (nat_lit 4) (nat_lit 3) (nat_lit 1) [] (nat_lit 2648)) := ok_call (md := zmd_0) zh_0 zh_249 rfl (by decide) (by decide) (Or.inl rfl) zp_249 (zrow_callSX (mdc := zmd_249) (index := 276) (md := zmd_0) zh_0 (by decide +kernel) rfl rfl zc_249 zw_6_12 zw_6_13 zw_1_0 zd_249) trivial
theorem zr_0_2648 : zOK zPre 0 2648 (s_s1 (nat_lit 45067) (nat_lit 6) (nat_lit 2650)) := ok_s10 (t := 0) (i := 6) (zrow_istore (md := zmd_0) zh_0 (by decide +kernel) rfl)
theorem zr_0_2650 : zOK zPre 0 2650 (s_ld_2 (nat_lit 1136) (nat_lit 2651)) := zokE (zld_2 _ _) (ok_ld0 (t := 4) (i := 2) (zrow_aload_n (k := 2) (md := zmd_0) zh_0 (by decide +kernel) rfl rfl))
theorem zr_0_2651 : zOK zPre 0 2651 (s_ld_0 (nat_lit 1136) (nat_lit 2652)) := zokE (zld_0 _ _) (ok_ld0 (t := 4) (i := 0) (zrow_aload_n (k := 0) (md := zmd_0) zh_0 (by decide +kernel) rfl rfl))
theorem zr_0_2652 : zOK zPre 0 2652 (s_ld_5 (nat_lit 45067) (nat_lit 2654)) := zokE (zld_5 _ _) (ok_ld0 (t := 0) (i := 5) (zrow_iload (md := zmd_0) zh_0 (by decide +kernel) rfl))
theorem zr_0_2654 : zOK zPre 0 2654 (s_k (nat_lit 16) (nat_lit 2655)) := ok_iconst (n := 1) (md := zmd_0) zh_0 (by decide +kernel) rfl (by decide +kernel)
theorem zr_0_2655 : zOK zPre 0 2655 (s_iadd (nat_lit 2656)) := ok_iadd (md := zmd_0) zh_0 (by decide +kernel) rfl
theorem zr_0_2656 : zOK zPre 0 2656 (s_sld (nat_lit 2657)) := ok_sld (md := zmd_0) zh_0 (by decide +kernel) rfl
theorem zr_0_2657 : zOK zPre 0 2657 (s_call (nat_lit 10) (nat_lit 251) (nat_lit 4) (nat_lit 2) (nat_lit 1) [] (nat_lit 2660)) := ok_call (md := zmd_0) zh_0 zh_251 rfl (by decide) (by decide) (Or.inr (by decide)) zp_251 (zrow_callV (mdc := zmd_251) (index := 278) (md := zmd_0) zh_0 (by decide +kernel) rfl rfl zc_251 rfl (by decide) zw_10_195 zw_10_196 zw_10_197 zw_1_10 zd_251) trivial
theorem zr_0_2660 : zOK zPre 0 2660 (s_s1 (nat_lit 45067) (nat_lit 7) (nat_lit 2662)) := ok_s10 (t := 0) (i := 7) (zrow_istore (md := zmd_0) zh_0 (by decide +kernel) rfl)
theorem zr_0_2662 : zOK zPre 0 2662 (s_ld_2 (nat_lit 1136) (nat_lit 2663)) := zokE (zld_2 _ _) (ok_ld0 (t := 4) (i := 2) (zrow_aload_n (k := 2) (md := zmd_0) zh_0 (by decide +kernel) rfl rfl))
theorem zr_0_2663 : zOK zPre 0 2663 (s_call (nat_lit 10) (nat_lit 39) (nat_lit 1) (nat_lit 1) (nat_lit 1) [] (nat_lit 2666)) := ok_call (md := zmd_0) zh_0 zh_39 rfl (by decide) (by decide) (Or.inr (by decide)) zp_39 (zrow_callV (mdc := zmd_39) (index := 155) (md := zmd_0) zh_0 (by decide +kernel) rfl rfl zc_39 rfl (by decide) zw_7_66 zw_7_67 zw_7_68 zw_1_10 zd_39) trivial
theorem zr_0_2666 : zOK zPre 0 2666 (s_ld (nat_lit 45067) (nat_lit 6) (nat_lit 2668)) := ok_ld0 (t := 0) (i := 6) (zrow_iload (md := zmd_0) zh_0 (by decide +kernel) rfl)
theorem zr_0_2668 : zOK zPre 0 2668 (s_ic (nat_lit 0) zu_eq (nat_lit 2673) (nat_lit 2671)) := ok_ic_eq (off := 5) (md := zmd_0) zh_0 (by decide +kernel) (by decide +kernel) rfl
theorem zr_0_2673 : zOK zPre 0 2673 (s_ld (nat_lit 45067) (nat_lit 6) (nat_lit 2675)) := ok_ld0 (t := 0) (i := 6) (zrow_iload (md := zmd_0) zh_0 (by decide +kernel) rfl)
theorem zr_0_2675 : zOK zPre 0 2675 (s_if (nat_lit 1) zi_ne (nat_lit 2690) (nat_lit 2678)) := ok_if_ne (off := 15) (md := zmd_0) zh_0 (by decide +kernel) (by decide +kernel) rfl
theorem zr_0_2690 : zOK zPre 0 2690 (s_go (nat_lit 2913)) := ok_go (off := 223) (md := zmd_0) zh_0 (by decide +kernel) (by decide +kernel)
theorem zr_0_2693 : zOK zPre 0 2693 (s_ld_1 (nat_lit 1136) (nat_lit 2694)) := zokE (zld_1 _ _) (ok_ld0 (t := 4) (i := 1) (zrow_aload_n (k := 1) (md := zmd_0) zh_0 (by decide +kernel) rfl rfl))
theorem zr_0_2694 : zOK zPre 0 2694 (s_ld_0 (nat_lit 1136) (nat_lit 2695)) := zokE (zld_0 _ _) (ok_ld0 (t := 4) (i := 0) (zrow_aload_n (k := 0) (md := zmd_0) zh_0 (by decide +kernel) rfl rfl))
theorem zr_0_2695 : zOK zPre 0 2695 (s_ld_5 (nat_lit 45067) (nat_lit 2697)) := zokE (zld_5 _ _) (ok_ld0 (t := 0) (i := 5) (zrow_iload (md := zmd_0) zh_0 (by decide +kernel) rfl))
theorem zr_0_2697 : zOK zPre 0 2697 (s_k (nat_lit 16) (nat_lit 2698)) := ok_iconst (n := 1) (md := zmd_0) zh_0 (by decide +kernel) rfl (by decide +kernel)
theorem zr_0_2698 : zOK zPre 0 2698 (s_iadd (nat_lit 2699)) := ok_iadd (md := zmd_0) zh_0 (by decide +kernel) rfl
theorem zr_0_2699 : zOK zPre 0 2699 (s_sld (nat_lit 2700)) := ok_sld (md := zmd_0) zh_0 (by decide +kernel) rfl
theorem zr_0_2700 : zOK zPre 0 2700 (s_ld_4 (nat_lit 1136) (nat_lit 2702)) := zokE (zld_4 _ _) (ok_ld0 (t := 4) (i := 4) (zrow_aload (md := zmd_0) zh_0 (by decide +kernel) rfl))
theorem zr_0_2702 : zOK zPre 0 2702 (s_call (nat_lit 99) (nat_lit 252) (nat_lit 4) (nat_lit 3) (nat_lit 1) [] (nat_lit 2705)) := ok_call (md := zmd_0) zh_0 zh_252 rfl (by decide) (by decide) (Or.inl rfl) zp_252 (zrow_callSX (mdc := zmd_252) (index := 279) (md := zmd_0) zh_0 (by decide +kernel) rfl rfl zc_252 zw_6_34 zw_6_35 zw_1_0 zd_252) trivial
theorem zr_0_2705 : zOK zPre 0 2705 (s_s1 (nat_lit 45067) (nat_lit 6) (nat_lit 2707)) := ok_s10 (t := 0) (i := 6) (zrow_istore (md := zmd_0) zh_0 (by decide +kernel) rfl)
theorem zr_0_2707 : zOK zPre 0 2707 (s_ld_2 (nat_lit 1136) (nat_lit 2708)) := zokE (zld_2 _ _) (ok_ld0 (t := 4) (i := 2) (zrow_aload_n (k := 2) (md := zmd_0) zh_0 (by decide +kernel) rfl rfl))
theorem zr_0_2708 : zOK zPre 0 2708 (s_ld_0 (nat_lit 1136) (nat_lit 2709)) := zokE (zld_0 _ _) (ok_ld0 (t := 4) (i := 0) (zrow_aload_n (k := 0) (md := zmd_0) zh_0 (by decide +kernel) rfl rfl))
theorem zr_0_2709 : zOK zPre 0 2709 (s_ld_5 (nat_lit 45067) (nat_lit 2711)) := zokE (zld_5 _ _) (ok_ld0 (t := 0) (i := 5) (zrow_iload (md := zmd_0) zh_0 (by decide +kernel) rfl))
theorem zr_0_2711 : zOK zPre 0 2711 (s_k (nat_lit 16) (nat_lit 2712)) := ok_iconst (n := 1) (md := zmd_0) zh_0 (by decide +kernel) rfl (by decide +kernel)
theorem zr_0_2712 : zOK zPre 0 2712 (s_iadd (nat_lit 2713)) := ok_iadd (md := zmd_0) zh_0 (by decide +kernel) rfl
theorem zr_0_2713 : zOK zPre 0 2713 (s_sld (nat_lit 2714)) := ok_sld (md := zmd_0) zh_0 (by decide +kernel) rfl
theorem zr_0_2714 : zOK zPre 0 2714 (s_call (nat_lit 10) (nat_lit 254) (nat_lit 2) (nat_lit 2) (nat_lit 1) [] (nat_lit 2717)) := ok_call (md := zmd_0) zh_0 zh_254 rfl (by decide) (by decide) (Or.inr (by decide)) zp_254 (zrow_callV (mdc := zmd_254) (index := 282) (md := zmd_0) zh_0 (by decide +kernel) rfl rfl zc_254 rfl (by decide) zw_10_199 zw_10_200 zw_10_201 zw_1_10 zd_254) trivial
theorem zr_0_2717 : zOK zPre 0 2717 (s_s1 (nat_lit 256) (nat_lit 7) (nat_lit 2719)) := ok_s10 (t := 2) (i := 7) (zrow_fstore (md := zmd_0) zh_0 (by decide +kernel) rfl)
theorem zr_0_2719 : zOK zPre 0 2719 (s_ld_2 (nat_lit 1136) (nat_lit 2720)) := zokE (zld_2 _ _) (ok_ld0 (t := 4) (i := 2) (zrow_aload_n (k := 2) (md := zmd_0) zh_0 (by decide +kernel) rfl rfl))
theorem zr_0_2720 : zOK zPre 0 2720 (s_call (nat_lit 10) (nat_lit 39) (nat_lit 1) (nat_lit 1) (nat_lit 1) [] (nat_lit 2723)) := ok_call (md := zmd_0) zh_0 zh_39 rfl (by decide) (by decide) (Or.inr (by decide)) zp_39 (zrow_callV (mdc := zmd_39) (index := 155) (md := zmd_0) zh_0 (by decide +kernel) rfl rfl zc_39 rfl (by decide) zw_7_66 zw_7_67 zw_7_68 zw_1_10 zd_39) trivial
theorem zr_0_2723 : zOK zPre 0 2723 (s_ld (nat_lit 45067) (nat_lit 6) (nat_lit 2725)) := ok_ld0 (t := 0) (i := 6) (zrow_iload (md := zmd_0) zh_0 (by decide +kernel) rfl)
theorem zr_0_2725 : zOK zPre 0 2725 (s_ic (nat_lit 0) zu_eq (nat_lit 2730) (nat_lit 2728)) := ok_ic_eq (off := 5) (md := zmd_0) zh_0 (by decide +kernel) (by decide +kernel) rfl
theorem zr_0_2730 : zOK zPre 0 2730 (s_ld (nat_lit 45067) (nat_lit 6) (nat_lit 2732)) := ok_ld0 (t := 0) (i := 6) (zrow_iload (md := zmd_0) zh_0 (by decide +kernel) rfl)
theorem zr_0_2732 : zOK zPre 0 2732 (s_if (nat_lit 1) zi_ne (nat_lit 2768) (nat_lit 2735)) := ok_if_ne (off := 36) (md := zmd_0) zh_0 (by decide +kernel) (by decide +kernel) rfl
theorem zr_0_2768 : zOK zPre 0 2768 (s_go (nat_lit 2913)) := ok_go (off := 145) (md := zmd_0) zh_0 (by decide +kernel) (by decide +kernel)
theorem zr_0_2771 : zOK zPre 0 2771 (s_ld_1 (nat_lit 1136) (nat_lit 2772)) := zokE (zld_1 _ _) (ok_ld0 (t := 4) (i := 1) (zrow_aload_n (k := 1) (md := zmd_0) zh_0 (by decide +kernel) rfl rfl))
theorem zr_0_2772 : zOK zPre 0 2772 (s_call (nat_lit 8) (nat_lit 255) (nat_lit 3) (nat_lit 1) (nat_lit 1) [] (nat_lit 2775)) := ok_call (md := zmd_0) zh_0 zh_255 rfl (by decide) (by decide) (Or.inr (by decide)) zp_255 (zrow_callV (mdc := zmd_255) (index := 283) (md := zmd_0) zh_0 (by decide +kernel) rfl rfl zc_255 rfl (by decide) zw_2_168 zw_2_169 zw_2_170 zw_1_1 zd_255) trivial
theorem zr_0_2775 : zOK zPre 0 2775 (s_s2 (nat_lit 128) (nat_lit 6) (nat_lit 2777)) := ok_s20 (t := 3) (i := 6) (zrow_dstore (md := zmd_0) zh_0 (by decide +kernel) rfl)
theorem zr_0_2777 : zOK zPre 0 2777 (s_ld_2 (nat_lit 1136) (nat_lit 2778)) := zokE (zld_2 _ _) (ok_ld0 (t := 4) (i := 2) (zrow_aload_n (k := 2) (md := zmd_0) zh_0 (by decide +kernel) rfl rfl))
theorem zr_0_2778 : zOK zPre 0 2778 (s_call (nat_lit 10) (nat_lit 256) (nat_lit 6) (nat_lit 1) (nat_lit 1) [] (nat_lit 2781)) := ok_call (md := zmd_0) zh_0 zh_256 rfl (by decide) (by decide) (Or.inr (by decide)) zp_256 (zrow_callV (mdc := zmd_256) (index := 287) (md := zmd_0) zh_0 (by decide +kernel) rfl rfl zc_256 rfl (by decide) zw_10_203 zw_10_204 zw_10_205 zw_1_10 zd_256) trivial
theorem zr_0_2781 : zOK zPre 0 2781 (s_s2 (nat_lit 128) (nat_lit 8) (nat_lit 2783)) := ok_s20 (t := 3) (i := 8) (zrow_dstore (md := zmd_0) zh_0 (by decide +kernel) rfl)
theorem zr_0_2783 : zOK zPre 0 2783 (s_ld (nat_lit 128) (nat_lit 6) (nat_lit 2785)) := ok_ld0 (t := 3) (i := 6) (zrow_dload (md := zmd_0) zh_0 (by decide +kernel) rfl)
theorem zr_0_2785 : zOK zPre 0 2785 (s_ld (nat_lit 128) (nat_lit 8) (nat_lit 2787)) := ok_ld0 (t := 3) (i := 8) (zrow_dload (md := zmd_0) zh_0 (by decide +kernel) rfl)
theorem zr_0_2787 : zOK zPre 0 2787 (s_dcmpl (nat_lit 2788)) := ok_dcmpl (op := .l) (md := zmd_0) zh_0 (by decide +kernel) (by decide +kernel) rfl
theorem zr_0_2788 : zOK zPre 0 2788 (s_if (nat_lit 0) zi_eq (nat_lit 2809) (nat_lit 2791)) := ok_if_eq (off := 21) (md := zmd_0) zh_0 (by decide +kernel) (by decide +kernel) rfl
theorem zr_0_2809 : zOK zPre 0 2809 (s_go (nat_lit 2913)) := ok_go (off := 104) (md := zmd_0) zh_0 (by decide +kernel) (by decide +kernel)
theorem zr_0_2812 : zOK zPre 0 2812 (s_ld_1 (nat_lit 1136) (nat_lit 2813)) := zokE (zld_1 _ _) (ok_ld0 (t := 4) (i := 1) (zrow_aload_n (k := 1) (md := zmd_0) zh_0 (by decide +kernel) rfl rfl))
theorem zr_0_2813 : zOK zPre 0 2813 (s_call (nat_lit 8) (nat_lit 257) (nat_lit 4) (nat_lit 1) (nat_lit 1) [] (nat_lit 2816)) := ok_call (md := zmd_0) zh_0 zh_257 rfl (by decide) (by decide) (Or.inr (by decide)) zp_257 (zrow_callV (mdc := zmd_257) (index := 288) (md := zmd_0) zh_0 (by decide +kernel) rfl rfl zc_257 rfl (by decide) zw_2_196 zw_2_197 zw_2_198 zw_1_1 zd_257) trivial
theorem zr_0_2816 : zOK zPre 0 2816 (s_ld_2 (nat_lit 1136) (nat_lit 2817)) := zokE (zld_2 _ _) (ok_ld0 (t := 4) (i := 2) (zrow_aload_n (k := 2) (md := zmd_0) zh_0 (by decide +kernel) rfl rfl))
theorem zr_0_2817 : zOK zPre 0 2817 (s_call (nat_lit 10) (nat_lit 259) (nat_lit 8) (nat_lit 1) (nat_lit 1) [] (nat_lit 2820)) := ok_call (md := zmd_0) zh_0 zh_259 rfl (by decide) (by decide) (Or.inr (by decide)) zp_259 (zrow_callV (mdc := zmd_259) (index := 292) (md := zmd_0) zh_0 (by decide +kernel) rfl rfl zc_259 rfl (by decide) zw_10_208 zw_10_209 zw_10_210 zw_1_10 zd_259) trivial
theorem zr_0_2820 : zOK zPre 0 2820 (s_lcmp (nat_lit 2821)) := ok_lcmp (md := zmd_0) zh_0 (by decide +kernel) rfl
theorem zr_0_2821 : zOK zPre 0 2821 (s_if (nat_lit 0) zi_eq (nat_lit 2913) (nat_lit 2824)) := ok_if_eq (off := 92) (md := zmd_0) zh_0 (by decide +kernel) (by decide +kernel) rfl
theorem zr_0_2826 : zOK zPre 0 2826 (s_ld_1 (nat_lit 1136) (nat_lit 2827)) := zokE (zld_1 _ _) (ok_ld0 (t := 4) (i := 1) (zrow_aload_n (k := 1) (md := zmd_0) zh_0 (by decide +kernel) rfl rfl))
theorem zr_0_2827 : zOK zPre 0 2827 (s_ld_0 (nat_lit 1136) (nat_lit 2828)) := zokE (zld_0 _ _) (ok_ld0 (t := 4) (i := 0) (zrow_aload_n (k := 0) (md := zmd_0) zh_0 (by decide +kernel) rfl rfl))
theorem zr_0_2828 : zOK zPre 0 2828 (s_ld_5 (nat_lit 45067) (nat_lit 2830)) := zokE (zld_5 _ _) (ok_ld0 (t := 0) (i := 5) (zrow_iload (md := zmd_0) zh_0 (by decide +kernel) rfl))
theorem zr_0_2830 : zOK zPre 0 2830 (s_k (nat_lit 16) (nat_lit 2831)) := ok_iconst (n := 1) (md := zmd_0) zh_0 (by decide +kernel) rfl (by decide +kernel)
theorem zr_0_2831 : zOK zPre 0 2831 (s_iadd (nat_lit 2832)) := ok_iadd (md := zmd_0) zh_0 (by decide +kernel) rfl
theorem zr_0_2832 : zOK zPre 0 2832 (s_sld (nat_lit 2833)) := ok_sld (md := zmd_0) zh_0 (by decide +kernel) rfl
theorem zr_0_2833 : zOK zPre 0 2833 (s_ld_0 (nat_lit 1136) (nat_lit 2834)) := zokE (zld_0 _ _) (ok_ld0 (t := 4) (i := 0) (zrow_aload_n (k := 0) (md := zmd_0) zh_0 (by decide +kernel) rfl rfl))
theorem zr_0_2834 : zOK zPre 0 2834 (s_ld_5 (nat_lit 45067) (nat_lit 2836)) := zokE (zld_5 _ _) (ok_ld0 (t := 0) (i := 5) (zrow_iload (md := zmd_0) zh_0 (by decide +kernel) rfl))
theorem zr_0_2836 : zOK zPre 0 2836 (s_k (nat_lit 32) (nat_lit 2837)) := ok_iconst (n := 2) (md := zmd_0) zh_0 (by decide +kernel) rfl (by decide +kernel)
theorem zr_0_2837 : zOK zPre 0 2837 (s_iadd (nat_lit 2838)) := ok_iadd (md := zmd_0) zh_0 (by decide +kernel) rfl
theorem zr_0_2838 : zOK zPre 0 2838 (s_sld (nat_lit 2839)) := ok_sld (md := zmd_0) zh_0 (by decide +kernel) rfl
theorem zr_0_2839 : zOK zPre 0 2839 (s_ld_0 (nat_lit 1136) (nat_lit 2840)) := zokE (zld_0 _ _) (ok_ld0 (t := 4) (i := 0) (zrow_aload_n (k := 0) (md := zmd_0) zh_0 (by decide +kernel) rfl rfl))
theorem zr_0_2840 : zOK zPre 0 2840 (s_ld_5 (nat_lit 45067) (nat_lit 2842)) := zokE (zld_5 _ _) (ok_ld0 (t := 0) (i := 5) (zrow_iload (md := zmd_0) zh_0 (by decide +kernel) rfl))
theorem zr_0_2842 : zOK zPre 0 2842 (s_k (nat_lit 48) (nat_lit 2843)) := ok_iconst (n := 3) (md := zmd_0) zh_0 (by decide +kernel) rfl (by decide +kernel)
theorem zr_0_2843 : zOK zPre 0 2843 (s_iadd (nat_lit 2844)) := ok_iadd (md := zmd_0) zh_0 (by decide +kernel) rfl
theorem zr_0_2844 : zOK zPre 0 2844 (s_sld (nat_lit 2845)) := ok_sld (md := zmd_0) zh_0 (by decide +kernel) rfl
theorem zr_0_2845 : zOK zPre 0 2845 (s_ld_3 (nat_lit 1136) (nat_lit 2846)) := zokE (zld_3 _ _) (ok_ld0 (t := 4) (i := 3) (zrow_aload_n (k := 3) (md := zmd_0) zh_0 (by decide +kernel) rfl rfl))
theorem zr_0_2846 : zOK zPre 0 2846 (s_call (nat_lit 99) (nat_lit 263) (nat_lit 6) (nat_lit 5) (nat_lit 1) [] (nat_lit 2849)) := ok_call (md := zmd_0) zh_0 zh_263 rfl (by decide) (by decide) (Or.inl rfl) zp_263 (zrow_callSX (mdc := zmd_263) (index := 293) (md := zmd_0) zh_0 (by decide +kernel) rfl rfl zc_263 zw_6_42 zw_6_43 zw_1_0 zd_263) trivial
theorem zr_0_2849 : zOK zPre 0 2849 (s_s1 (nat_lit 45067) (nat_lit 6) (nat_lit 2851)) := ok_s10 (t := 0) (i := 6) (zrow_istore (md := zmd_0) zh_0 (by decide +kernel) rfl)
theorem zr_0_2851 : zOK zPre 0 2851 (s_ld_2 (nat_lit 1136) (nat_lit 2852)) := zokE (zld_2 _ _) (ok_ld0 (t := 4) (i := 2) (zrow_aload_n (k := 2) (md := zmd_0) zh_0 (by decide +kernel) rfl rfl))
theorem zr_0_2852 : zOK zPre 0 2852 (s_ld_0 (nat_lit 1136) (nat_lit 2853)) := zokE (zld_0 _ _) (ok_ld0 (t := 4) (i := 0) (zrow_aload_n (k := 0) (md := zmd_0) zh_0 (by decide +kernel) rfl rfl))
theorem zr_0_2853 : zOK zPre 0 2853 (s_ld_5 (nat_lit 45067) (nat_lit 2855)) := zokE (zld_5 _ _) (ok_ld0 (t := 0) (i := 5) (zrow_iload (md := zmd_0) zh_0 (by decide +kernel) rfl))
theorem zr_0_2855 : zOK zPre 0 2855 (s_k (nat_lit 16) (nat_lit 2856)) := ok_iconst (n := 1) (md := zmd_0) zh_0 (by decide +kernel) rfl (by decide +kernel)
theorem zr_0_2856 : zOK zPre 0 2856 (s_iadd (nat_lit 2857)) := ok_iadd (md := zmd_0) zh_0 (by decide +kernel) rfl
theorem zr_0_2857 : zOK zPre 0 2857 (s_sld (nat_lit 2858)) := ok_sld (md := zmd_0) zh_0 (by decide +kernel) rfl
theorem zr_0_2858 : zOK zPre 0 2858 (s_ld_0 (nat_lit 1136) (nat_lit 2859)) := zokE (zld_0 _ _) (ok_ld0 (t := 4) (i := 0) (zrow_aload_n (k := 0) (md := zmd_0) zh_0 (by decide +kernel) rfl rfl))
theorem zr_0_2859 : zOK zPre 0 2859 (s_ld_5 (nat_lit 45067) (nat_lit 2861)) := zokE (zld_5 _ _) (ok_ld0 (t := 0) (i := 5) (zrow_iload (md := zmd_0) zh_0 (by decide +kernel) rfl))
theorem zr_0_2861 : zOK zPre 0 2861 (s_k (nat_lit 32) (nat_lit 2862)) := ok_iconst (n := 2) (md := zmd_0) zh_0 (by decide +kernel) rfl (by decide +kernel)
theorem zr_0_2862 : zOK zPre 0 2862 (s_iadd (nat_lit 2863)) := ok_iadd (md := zmd_0) zh_0 (by decide +kernel) rfl
theorem zr_0_2863 : zOK zPre 0 2863 (s_sld (nat_lit 2864)) := ok_sld (md := zmd_0) zh_0 (by decide +kernel) rfl
theorem zr_0_2864 : zOK zPre 0 2864 (s_ld_0 (nat_lit 1136) (nat_lit 2865)) := zokE (zld_0 _ _) (ok_ld0 (t := 4) (i := 0) (zrow_aload_n (k := 0) (md := zmd_0) zh_0 (by decide +kernel) rfl rfl))
theorem zr_0_2865 : zOK zPre 0 2865 (s_ld_5 (nat_lit 45067) (nat_lit 2867)) := zokE (zld_5 _ _) (ok_ld0 (t := 0) (i := 5) (zrow_iload (md := zmd_0) zh_0 (by decide +kernel) rfl))
theorem zr_0_2867 : zOK zPre 0 2867 (s_k (nat_lit 48) (nat_lit 2868)) := ok_iconst (n := 3) (md := zmd_0) zh_0 (by decide +kernel) rfl (by decide +kernel)
theorem zr_0_2868 : zOK zPre 0 2868 (s_iadd (nat_lit 2869)) := ok_iadd (md := zmd_0) zh_0 (by decide +kernel) rfl
theorem zr_0_2869 : zOK zPre 0 2869 (s_sld (nat_lit 2870)) := ok_sld (md := zmd_0) zh_0 (by decide +kernel) rfl
theorem zr_0_2870 : zOK zPre 0 2870 (s_call (nat_lit 10) (nat_lit 265) (nat_lit 4) (nat_lit 4) (nat_lit 1) [] (nat_lit 2873)) := ok_call (md := zmd_0) zh_0 zh_265 rfl (by decide) (by decide) (Or.inr (by decide)) zp_265 (zrow_callV (mdc := zmd_265) (index := 295) (md := zmd_0) zh_0 (by decide +kernel) rfl rfl zc_265 rfl (by decide) zw_11_35 zw_11_36 zw_11_37 zw_1_10 zd_265) trivial
theorem zr_0_2873 : zOK zPre 0 2873 (s_s1 (nat_lit 45067) (nat_lit 7) (nat_lit 2875)) := ok_s10 (t := 0) (i := 7) (zrow_istore (md := zmd_0) zh_0 (by decide +kernel) rfl)
theorem zr_0_2875 : zOK zPre 0 2875 (s_ld_2 (nat_lit 1136) (nat_lit 2876)) := zokE (zld_2 _ _) (ok_ld0 (t := 4) (i := 2) (zrow_aload_n (k := 2) (md := zmd_0) zh_0 (by decide +kernel) rfl rfl))
theorem zr_0_2876 : zOK zPre 0 2876 (s_call (nat_lit 10) (nat_lit 39) (nat_lit 1) (nat_lit 1) (nat_lit 1) [] (nat_lit 2879)) := ok_call (md := zmd_0) zh_0 zh_39 rfl (by decide) (by decide) (Or.inr (by decide)) zp_39 (zrow_callV (mdc := zmd_39) (index := 155) (md := zmd_0) zh_0 (by decide +kernel) rfl rfl zc_39 rfl (by decide) zw_7_66 zw_7_67 zw_7_68 zw_1_10 zd_39) trivial
theorem zr_0_2879 : zOK zPre 0 2879 (s_ld (nat_lit 45067) (nat_lit 6) (nat_lit 2881)) := ok_ld0 (t := 0) (i := 6) (zrow_iload (md := zmd_0) zh_0 (by decide +kernel) rfl)
theorem zr_0_2881 : zOK zPre 0 2881 (s_ic (nat_lit 0) zu_eq (nat_lit 2886) (nat_lit 2884)) := ok_ic_eq (off := 5) (md := zmd_0) zh_0 (by decide +kernel) (by decide +kernel) rfl
theorem zr_0_2886 : zOK zPre 0 2886 (s_ld (nat_lit 45067) (nat_lit 6) (nat_lit 2888)) := ok_ld0 (t := 0) (i := 6) (zrow_iload (md := zmd_0) zh_0 (by decide +kernel) rfl)
theorem zr_0_2888 : zOK zPre 0 2888 (s_if (nat_lit 1) zi_ne (nat_lit 2910) (nat_lit 2891)) := ok_if_ne (off := 22) (md := zmd_0) zh_0 (by decide +kernel) (by decide +kernel) rfl
theorem zr_0_2891 : zOK zPre 0 2891 (s_ld_3 (nat_lit 1136) (nat_lit 2892)) := zokE (zld_3 _ _) (ok_ld0 (t := 4) (i := 3) (zrow_aload_n (k := 3) (md := zmd_0) zh_0 (by decide +kernel) rfl rfl))
theorem zr_0_2892 : zOK zPre 0 2892 (s_k (nat_lit 0) (nat_lit 2893)) := ok_iconst (n := 0) (md := zmd_0) zh_0 (by decide +kernel) rfl (by decide +kernel)
theorem zr_0_2893 : zOK zPre 0 2893 (s_ald (nat_lit 21) (nat_lit 21) (nat_lit 2894)) := ok_ald0 (by decide) (by decide) (by decide) (zrow_laload (md := zmd_0) zh_0 (by decide +kernel) rfl)
theorem zr_0_2894 : zOK zPre 0 2894 (s_ld (nat_lit 45067) (nat_lit 7) (nat_lit 2896)) := ok_ld0 (t := 0) (i := 7) (zrow_iload (md := zmd_0) zh_0 (by decide +kernel) rfl)
theorem zr_0_2896 : zOK zPre 0 2896 (s_if (nat_lit 0) zi_eq (nat_lit 2903) (nat_lit 2899)) := ok_if_eq (off := 7) (md := zmd_0) zh_0 (by decide +kernel) (by decide +kernel) rfl
theorem zr_0_2899 : zOK zPre 0 2899 (s_k (nat_lit 18) (nat_lit 2900)) := ok_lconst (n := 1) (md := zmd_0) zh_0 (by decide +kernel) rfl (by decide +kernel)
theorem zr_0_2900 : zOK zPre 0 2900 (s_go (nat_lit 2904)) := ok_go (off := 4) (md := zmd_0) zh_0 (by decide +kernel) (by decide +kernel)
theorem zr_0_2904 : zOK zPre 0 2904 (s_lcmp (nat_lit 2905)) := ok_lcmp (md := zmd_0) zh_0 (by decide +kernel) rfl
theorem zr_0_2905 : zOK zPre 0 2905 (s_if (nat_lit 0) zi_eq (nat_lit 2910) (nat_lit 2908)) := ok_if_eq (off := 5) (md := zmd_0) zh_0 (by decide +kernel) (by decide +kernel) rfl
theorem zr_0_2910 : zOK zPre 0 2910 (s_go (nat_lit 2913)) := ok_go (off := 3) (md := zmd_0) zh_0 (by decide +kernel) (by decide +kernel)
theorem zr_0_2913 : zOK zPre 0 2913 (s_inc (nat_lit 5) (nat_lit 80) (nat_lit 2916)) := ok_inc (n := 5) (md := zmd_0) zh_0 (by decide +kernel) rfl (by decide +kernel)
theorem zr_0_2916 : zOK zPre 0 2916 (s_go (nat_lit 28)) := ok_go (off := -2888) (md := zmd_0) zh_0 (by decide +kernel) (by decide +kernel)
theorem zr_0_2919 : zOK zPre 0 2919 (s_k (nat_lit 16) (nat_lit 2920)) := ok_iconst (n := 1) (md := zmd_0) zh_0 (by decide +kernel) rfl (by decide +kernel)
theorem zr_0_2920 : zOK zPre 0 2920 (s_rz (nat_lit 1)) := ok_rz (ft := 1) (Or.inl rfl) (md := zmd_0) zh_0 rfl (by decide +kernel)
end RowsOK
