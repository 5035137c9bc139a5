section RowsOK
theorem zr_0_264 : zOK zPre 0 264 (s_iadd (nat_lit 265)) := ok_iadd (md := zmd_0) zh_0 (by decide +kernel) rfl
theorem zr_0_265 : zOK zPre 0 265 (s_sld (nat_lit 266)) := ok_sld (md := zmd_0) zh_0 (by decide +kernel) rfl
theorem zr_0_266 : zOK zPre 0 266 (s_ld_0 (nat_lit 1136) (nat_lit 267)) := zokE (zld_0 _ _) (ok_ld0 (t := 4) (i := 0) (zrow_aload_n (k := 0) (md := zmd_0) zh_0 (by decide +kernel) rfl rfl))
theorem zr_0_267 : zOK zPre 0 267 (s_ld_5 (nat_lit 45067) (nat_lit 269)) := zokE (zld_5 _ _) (ok_ld0 (t := 0) (i := 5) (zrow_iload (md := zmd_0) zh_0 (by decide +kernel) rfl))
theorem zr_0_269 : zOK zPre 0 269 (s_k (nat_lit 32) (nat_lit 270)) := ok_iconst (n := 2) (md := zmd_0) zh_0 (by decide +kernel) rfl (by decide +kernel)
theorem zr_0_270 : zOK zPre 0 270 (s_iadd (nat_lit 271)) := ok_iadd (md := zmd_0) zh_0 (by decide +kernel) rfl
theorem zr_0_271 : zOK zPre 0 271 (s_sld (nat_lit 272)) := ok_sld (md := zmd_0) zh_0 (by decide +kernel) rfl
theorem zr_0_272 : zOK zPre 0 272 (s_i2l (nat_lit 273)) := ok_i2l (md := zmd_0) zh_0 (by decide +kernel) rfl
theorem zr_0_273 : zOK zPre 0 273 (s_k (nat_lit 512) (nat_lit 275)) := ok_bipush (n := 32) (md := zmd_0) zh_0 (by decide +kernel) rfl (by decide +kernel)
theorem zr_0_275 : zOK zPre 0 275 (s_lshl (nat_lit 276)) := ok_lshl (md := zmd_0) zh_0 (by decide +kernel) rfl
theorem zr_0_276 : zOK zPre 0 276 (s_ld_0 (nat_lit 1136) (nat_lit 277)) := zokE (zld_0 _ _) (ok_ld0 (t := 4) (i := 0) (zrow_aload_n (k := 0) (md := zmd_0) zh_0 (by decide +kernel) rfl rfl))
theorem zr_0_277 : zOK zPre 0 277 (s_ld_5 (nat_lit 45067) (nat_lit 279)) := zokE (zld_5 _ _) (ok_ld0 (t := 0) (i := 5) (zrow_iload (md := zmd_0) zh_0 (by decide +kernel) rfl))
theorem zr_0_279 : zOK zPre 0 279 (s_k (nat_lit 48) (nat_lit 280)) := ok_iconst (n := 3) (md := zmd_0) zh_0 (by decide +kernel) rfl (by decide +kernel)
theorem zr_0_280 : zOK zPre 0 280 (s_iadd (nat_lit 281)) := ok_iadd (md := zmd_0) zh_0 (by decide +kernel) rfl
theorem zr_0_281 : zOK zPre 0 281 (s_sld (nat_lit 282)) := ok_sld (md := zmd_0) zh_0 (by decide +kernel) rfl
theorem zr_0_282 : zOK zPre 0 282 (s_i2l (nat_lit 283)) := ok_i2l (md := zmd_0) zh_0 (by decide +kernel) rfl
theorem zr_0_283 : zOK zPre 0 283 (s_k (nat_lit 68719476722) (nat_lit 286)) := ok_ldc2 (i := 147) (n := (4294967295 : Int64)) (md := zmd_0) zh_0 (by decide +kernel) rfl zw_11_39 (by decide +kernel)
theorem zr_0_286 : zOK zPre 0 286 (s_land (nat_lit 287)) := ok_land (md := zmd_0) zh_0 (by decide +kernel) rfl
theorem zr_0_287 : zOK zPre 0 287 (s_lor (nat_lit 288)) := ok_lor (md := zmd_0) zh_0 (by decide +kernel) rfl
theorem zr_0_288 : zOK zPre 0 288 (s_call (nat_lit 10) (nat_lit 31) (nat_lit 4) (nat_lit 3) (nat_lit 1) [] (nat_lit 291)) := ok_call (md := zmd_0) zh_0 zh_31 rfl (by decide) (by decide) (Or.inr (by decide)) zp_31 (zrow_callV (mdc := zmd_31) (index := 154) (md := zmd_0) zh_0 (by decide +kernel) rfl rfl zc_31 rfl (by decide) zw_7_70 zw_7_71 zw_7_72 zw_1_10 zd_31) trivial
theorem zr_0_291 : zOK zPre 0 291 (s_s1 (nat_lit 45067) (nat_lit 7) (nat_lit 293)) := ok_s10 (t := 0) (i := 7) (zrow_istore (md := zmd_0) zh_0 (by decide +kernel) rfl)
theorem zr_0_293 : zOK zPre 0 293 (s_ld_2 (nat_lit 1136) (nat_lit 294)) := zokE (zld_2 _ _) (ok_ld0 (t := 4) (i := 2) (zrow_aload_n (k := 2) (md := zmd_0) zh_0 (by decide +kernel) rfl rfl))
theorem zr_0_294 : zOK zPre 0 294 (s_call (nat_lit 10) (nat_lit 39) (nat_lit 1) (nat_lit 1) (nat_lit 1) [] (nat_lit 297)) := ok_call (md := zmd_0) zh_0 zh_39 rfl (by decide) (by decide) (Or.inr (by decide)) zp_39 (zrow_callV (mdc := zmd_39) (index := 155) (md := zmd_0) zh_0 (by decide +kernel) rfl rfl zc_39 rfl (by decide) zw_7_66 zw_7_67 zw_7_68 zw_1_10 zd_39) trivial
theorem zr_0_297 : zOK zPre 0 297 (s_ld (nat_lit 45067) (nat_lit 6) (nat_lit 299)) := ok_ld0 (t := 0) (i := 6) (zrow_iload (md := zmd_0) zh_0 (by decide +kernel) rfl)
theorem zr_0_299 : zOK zPre 0 299 (s_ic (nat_lit 0) zu_eq (nat_lit 304) (nat_lit 302)) := ok_ic_eq (off := 5) (md := zmd_0) zh_0 (by decide +kernel) (by decide +kernel) rfl
theorem zr_0_304 : zOK zPre 0 304 (s_ld (nat_lit 45067) (nat_lit 6) (nat_lit 306)) := ok_ld0 (t := 0) (i := 6) (zrow_iload (md := zmd_0) zh_0 (by decide +kernel) rfl)
theorem zr_0_306 : zOK zPre 0 306 (s_if (nat_lit 1) zi_ne (nat_lit 321) (nat_lit 309)) := ok_if_ne (off := 15) (md := zmd_0) zh_0 (by decide +kernel) (by decide +kernel) rfl
theorem zr_0_309 : zOK zPre 0 309 (s_ld_3 (nat_lit 1136) (nat_lit 310)) := zokE (zld_3 _ _) (ok_ld0 (t := 4) (i := 3) (zrow_aload_n (k := 3) (md := zmd_0) zh_0 (by decide +kernel) rfl rfl))
theorem zr_0_310 : zOK zPre 0 310 (s_k (nat_lit 0) (nat_lit 311)) := ok_iconst (n := 0) (md := zmd_0) zh_0 (by decide +kernel) rfl (by decide +kernel)
theorem zr_0_311 : zOK zPre 0 311 (s_ald (nat_lit 21) (nat_lit 21) (nat_lit 312)) := ok_ald0 (by decide) (by decide) (by decide) (zrow_laload (md := zmd_0) zh_0 (by decide +kernel) rfl)
theorem zr_0_312 : zOK zPre 0 312 (s_ld (nat_lit 45067) (nat_lit 7) (nat_lit 314)) := ok_ld0 (t := 0) (i := 7) (zrow_iload (md := zmd_0) zh_0 (by decide +kernel) rfl)
theorem zr_0_314 : zOK zPre 0 314 (s_i2l (nat_lit 315)) := ok_i2l (md := zmd_0) zh_0 (by decide +kernel) rfl
theorem zr_0_315 : zOK zPre 0 315 (s_lcmp (nat_lit 316)) := ok_lcmp (md := zmd_0) zh_0 (by decide +kernel) rfl
theorem zr_0_316 : zOK zPre 0 316 (s_if (nat_lit 0) zi_eq (nat_lit 321) (nat_lit 319)) := ok_if_eq (off := 5) (md := zmd_0) zh_0 (by decide +kernel) (by decide +kernel) rfl
theorem zr_0_321 : zOK zPre 0 321 (s_go (nat_lit 2913)) := ok_go (off := 2592) (md := zmd_0) zh_0 (by decide +kernel) (by decide +kernel)
theorem zr_0_324 : zOK zPre 0 324 (s_ld_1 (nat_lit 1136) (nat_lit 325)) := zokE (zld_1 _ _) (ok_ld0 (t := 4) (i := 1) (zrow_aload_n (k := 1) (md := zmd_0) zh_0 (by decide +kernel) rfl rfl))
theorem zr_0_325 : zOK zPre 0 325 (s_ld_0 (nat_lit 1136) (nat_lit 326)) := zokE (zld_0 _ _) (ok_ld0 (t := 4) (i := 0) (zrow_aload_n (k := 0) (md := zmd_0) zh_0 (by decide +kernel) rfl rfl))
theorem zr_0_326 : zOK zPre 0 326 (s_ld_5 (nat_lit 45067) (nat_lit 328)) := zokE (zld_5 _ _) (ok_ld0 (t := 0) (i := 5) (zrow_iload (md := zmd_0) zh_0 (by decide +kernel) rfl))
theorem zr_0_328 : zOK zPre 0 328 (s_k (nat_lit 16) (nat_lit 329)) := ok_iconst (n := 1) (md := zmd_0) zh_0 (by decide +kernel) rfl (by decide +kernel)
theorem zr_0_329 : zOK zPre 0 329 (s_iadd (nat_lit 330)) := ok_iadd (md := zmd_0) zh_0 (by decide +kernel) rfl
theorem zr_0_330 : zOK zPre 0 330 (s_sld (nat_lit 331)) := ok_sld (md := zmd_0) zh_0 (by decide +kernel) rfl
theorem zr_0_331 : zOK zPre 0 331 (s_ld_0 (nat_lit 1136) (nat_lit 332)) := zokE (zld_0 _ _) (ok_ld0 (t := 4) (i := 0) (zrow_aload_n (k := 0) (md := zmd_0) zh_0 (by decide +kernel) rfl rfl))
theorem zr_0_332 : zOK zPre 0 332 (s_ld_5 (nat_lit 45067) (nat_lit 334)) := zokE (zld_5 _ _) (ok_ld0 (t := 0) (i := 5) (zrow_iload (md := zmd_0) zh_0 (by decide +kernel) rfl))
theorem zr_0_334 : zOK zPre 0 334 (s_k (nat_lit 32) (nat_lit 335)) := ok_iconst (n := 2) (md := zmd_0) zh_0 (by decide +kernel) rfl (by decide +kernel)
theorem zr_0_335 : zOK zPre 0 335 (s_iadd (nat_lit 336)) := ok_iadd (md := zmd_0) zh_0 (by decide +kernel) rfl
theorem zr_0_336 : zOK zPre 0 336 (s_sld (nat_lit 337)) := ok_sld (md := zmd_0) zh_0 (by decide +kernel) rfl
theorem zr_0_337 : zOK zPre 0 337 (s_i2l (nat_lit 338)) := ok_i2l (md := zmd_0) zh_0 (by decide +kernel) rfl
theorem zr_0_338 : zOK zPre 0 338 (s_k (nat_lit 512) (nat_lit 340)) := ok_bipush (n := 32) (md := zmd_0) zh_0 (by decide +kernel) rfl (by decide +kernel)
theorem zr_0_340 : zOK zPre 0 340 (s_lshl (nat_lit 341)) := ok_lshl (md := zmd_0) zh_0 (by decide +kernel) rfl
theorem zr_0_341 : zOK zPre 0 341 (s_ld_0 (nat_lit 1136) (nat_lit 342)) := zokE (zld_0 _ _) (ok_ld0 (t := 4) (i := 0) (zrow_aload_n (k := 0) (md := zmd_0) zh_0 (by decide +kernel) rfl rfl))
theorem zr_0_342 : zOK zPre 0 342 (s_ld_5 (nat_lit 45067) (nat_lit 344)) := zokE (zld_5 _ _) (ok_ld0 (t := 0) (i := 5) (zrow_iload (md := zmd_0) zh_0 (by decide +kernel) rfl))
theorem zr_0_344 : zOK zPre 0 344 (s_k (nat_lit 48) (nat_lit 345)) := ok_iconst (n := 3) (md := zmd_0) zh_0 (by decide +kernel) rfl (by decide +kernel)
theorem zr_0_345 : zOK zPre 0 345 (s_iadd (nat_lit 346)) := ok_iadd (md := zmd_0) zh_0 (by decide +kernel) rfl
theorem zr_0_346 : zOK zPre 0 346 (s_sld (nat_lit 347)) := ok_sld (md := zmd_0) zh_0 (by decide +kernel) rfl
theorem zr_0_347 : zOK zPre 0 347 (s_i2l (nat_lit 348)) := ok_i2l (md := zmd_0) zh_0 (by decide +kernel) rfl
theorem zr_0_348 : zOK zPre 0 348 (s_k (nat_lit 68719476722) (nat_lit 351)) := ok_ldc2 (i := 147) (n := (4294967295 : Int64)) (md := zmd_0) zh_0 (by decide +kernel) rfl zw_11_39 (by decide +kernel)
theorem zr_0_351 : zOK zPre 0 351 (s_land (nat_lit 352)) := ok_land (md := zmd_0) zh_0 (by decide +kernel) rfl
theorem zr_0_352 : zOK zPre 0 352 (s_lor (nat_lit 353)) := ok_lor (md := zmd_0) zh_0 (by decide +kernel) rfl
theorem zr_0_353 : zOK zPre 0 353 (s_ld_3 (nat_lit 1136) (nat_lit 354)) := zokE (zld_3 _ _) (ok_ld0 (t := 4) (i := 3) (zrow_aload_n (k := 3) (md := zmd_0) zh_0 (by decide +kernel) rfl rfl))
theorem zr_0_354 : zOK zPre 0 354 (s_call (nat_lit 99) (nat_lit 43) (nat_lit 6) (nat_lit 4) (nat_lit 1) [] (nat_lit 357)) := ok_call (md := zmd_0) zh_0 zh_43 rfl (by decide) (by decide) (Or.inl rfl) zp_43 (zrow_callSX (mdc := zmd_43) (index := 159) (md := zmd_0) zh_0 (by decide +kernel) rfl rfl zc_43 zw_3_87 zw_3_88 zw_1_0 zd_43) trivial
theorem zr_0_357 : zOK zPre 0 357 (s_s1 (nat_lit 45067) (nat_lit 6) (nat_lit 359)) := ok_s10 (t := 0) (i := 6) (zrow_istore (md := zmd_0) zh_0 (by decide +kernel) rfl)
theorem zr_0_359 : zOK zPre 0 359 (s_ld_2 (nat_lit 1136) (nat_lit 360)) := zokE (zld_2 _ _) (ok_ld0 (t := 4) (i := 2) (zrow_aload_n (k := 2) (md := zmd_0) zh_0 (by decide +kernel) rfl rfl))
theorem zr_0_360 : zOK zPre 0 360 (s_ld_0 (nat_lit 1136) (nat_lit 361)) := zokE (zld_0 _ _) (ok_ld0 (t := 4) (i := 0) (zrow_aload_n (k := 0) (md := zmd_0) zh_0 (by decide +kernel) rfl rfl))
theorem zr_0_361 : zOK zPre 0 361 (s_ld_5 (nat_lit 45067) (nat_lit 363)) := zokE (zld_5 _ _) (ok_ld0 (t := 0) (i := 5) (zrow_iload (md := zmd_0) zh_0 (by decide +kernel) rfl))
theorem zr_0_363 : zOK zPre 0 363 (s_k (nat_lit 16) (nat_lit 364)) := ok_iconst (n := 1) (md := zmd_0) zh_0 (by decide +kernel) rfl (by decide +kernel)
theorem zr_0_364 : zOK zPre 0 364 (s_iadd (nat_lit 365)) := ok_iadd (md := zmd_0) zh_0 (by decide +kernel) rfl
theorem zr_0_365 : zOK zPre 0 365 (s_sld (nat_lit 366)) := ok_sld (md := zmd_0) zh_0 (by decide +kernel) rfl
theorem zr_0_366 : zOK zPre 0 366 (s_ld_0 (nat_lit 1136) (nat_lit 367)) := zokE (zld_0 _ _) (ok_ld0 (t := 4) (i := 0) (zrow_aload_n (k := 0) (md := zmd_0) zh_0 (by decide +kernel) rfl rfl))
theorem zr_0_367 : zOK zPre 0 367 (s_ld_5 (nat_lit 45067) (nat_lit 369)) := zokE (zld_5 _ _) (ok_ld0 (t := 0) (i := 5) (zrow_iload (md := zmd_0) zh_0 (by decide +kernel) rfl))
theorem zr_0_369 : zOK zPre 0 369 (s_k (nat_lit 32) (nat_lit 370)) := ok_iconst (n := 2) (md := zmd_0) zh_0 (by decide +kernel) rfl (by decide +kernel)
theorem zr_0_370 : zOK zPre 0 370 (s_iadd (nat_lit 371)) := ok_iadd (md := zmd_0) zh_0 (by decide +kernel) rfl
theorem zr_0_371 : zOK zPre 0 371 (s_sld (nat_lit 372)) := ok_sld (md := zmd_0) zh_0 (by decide +kernel) rfl
theorem zr_0_372 : zOK zPre 0 372 (s_i2l (nat_lit 373)) := ok_i2l (md := zmd_0) zh_0 (by decide +kernel) rfl
theorem zr_0_373 : zOK zPre 0 373 (s_k (nat_lit 512) (nat_lit 375)) := ok_bipush (n := 32) (md := zmd_0) zh_0 (by decide +kernel) rfl (by decide +kernel)
theorem zr_0_375 : zOK zPre 0 375 (s_lshl (nat_lit 376)) := ok_lshl (md := zmd_0) zh_0 (by decide +kernel) rfl
theorem zr_0_376 : zOK zPre 0 376 (s_ld_0 (nat_lit 1136) (nat_lit 377)) := zokE (zld_0 _ _) (ok_ld0 (t := 4) (i := 0) (zrow_aload_n (k := 0) (md := zmd_0) zh_0 (by decide +kernel) rfl rfl))
theorem zr_0_377 : zOK zPre 0 377 (s_ld_5 (nat_lit 45067) (nat_lit 379)) := zokE (zld_5 _ _) (ok_ld0 (t := 0) (i := 5) (zrow_iload (md := zmd_0) zh_0 (by decide +kernel) rfl))
theorem zr_0_379 : zOK zPre 0 379 (s_k (nat_lit 48) (nat_lit 380)) := ok_iconst (n := 3) (md := zmd_0) zh_0 (by decide +kernel) rfl (by decide +kernel)
theorem zr_0_380 : zOK zPre 0 380 (s_iadd (nat_lit 381)) := ok_iadd (md := zmd_0) zh_0 (by decide +kernel) rfl
theorem zr_0_381 : zOK zPre 0 381 (s_sld (nat_lit 382)) := ok_sld (md := zmd_0) zh_0 (by decide +kernel) rfl
theorem zr_0_382 : zOK zPre 0 382 (s_i2l (nat_lit 383)) := ok_i2l (md := zmd_0) zh_0 (by decide +kernel) rfl
theorem zr_0_383 : zOK zPre 0 383 (s_k (nat_lit 68719476722) (nat_lit 386)) := ok_ldc2 (i := 147) (n := (4294967295 : Int64)) (md := zmd_0) zh_0 (by decide +kernel) rfl zw_11_39 (by decide +kernel)
theorem zr_0_386 : zOK zPre 0 386 (s_land (nat_lit 387)) := ok_land (md := zmd_0) zh_0 (by decide +kernel) rfl
theorem zr_0_387 : zOK zPre 0 387 (s_lor (nat_lit 388)) := ok_lor (md := zmd_0) zh_0 (by decide +kernel) rfl
theorem zr_0_388 : zOK zPre 0 388 (s_call (nat_lit 10) (nat_lit 50) (nat_lit 5) (nat_lit 3) (nat_lit 1) [] (nat_lit 391)) := ok_call (md := zmd_0) zh_0 zh_50 rfl (by decide) (by decide) (Or.inr (by decide)) zp_50 (zrow_callV (mdc := zmd_50) (index := 161) (md := zmd_0) zh_0 (by decide +kernel) rfl rfl zc_50 rfl (by decide) zw_7_105 zw_7_106 zw_7_107 zw_1_10 zd_50) trivial
theorem zr_0_391 : zOK zPre 0 391 (s_s1 (nat_lit 45067) (nat_lit 7) (nat_lit 393)) := ok_s10 (t := 0) (i := 7) (zrow_istore (md := zmd_0) zh_0 (by decide +kernel) rfl)
theorem zr_0_393 : zOK zPre 0 393 (s_ld_2 (nat_lit 1136) (nat_lit 394)) := zokE (zld_2 _ _) (ok_ld0 (t := 4) (i := 2) (zrow_aload_n (k := 2) (md := zmd_0) zh_0 (by decide +kernel) rfl rfl))
theorem zr_0_394 : zOK zPre 0 394 (s_call (nat_lit 10) (nat_lit 39) (nat_lit 1) (nat_lit 1) (nat_lit 1) [] (nat_lit 397)) := ok_call (md := zmd_0) zh_0 zh_39 rfl (by decide) (by decide) (Or.inr (by decide)) zp_39 (zrow_callV (mdc := zmd_39) (index := 155) (md := zmd_0) zh_0 (by decide +kernel) rfl rfl zc_39 rfl (by decide) zw_7_66 zw_7_67 zw_7_68 zw_1_10 zd_39) trivial
theorem zr_0_397 : zOK zPre 0 397 (s_ld (nat_lit 45067) (nat_lit 6) (nat_lit 399)) := ok_ld0 (t := 0) (i := 6) (zrow_iload (md := zmd_0) zh_0 (by decide +kernel) rfl)
theorem zr_0_399 : zOK zPre 0 399 (s_ic (nat_lit 0) zu_eq (nat_lit 404) (nat_lit 402)) := ok_ic_eq (off := 5) (md := zmd_0) zh_0 (by decide +kernel) (by decide +kernel) rfl
theorem zr_0_404 : zOK zPre 0 404 (s_ld (nat_lit 45067) (nat_lit 6) (nat_lit 406)) := ok_ld0 (t := 0) (i := 6) (zrow_iload (md := zmd_0) zh_0 (by decide +kernel) rfl)
theorem zr_0_406 : zOK zPre 0 406 (s_if (nat_lit 1) zi_ne (nat_lit 421) (nat_lit 409)) := ok_if_ne (off := 15) (md := zmd_0) zh_0 (by decide +kernel) (by decide +kernel) rfl
theorem zr_0_409 : zOK zPre 0 409 (s_ld_3 (nat_lit 1136) (nat_lit 410)) := zokE (zld_3 _ _) (ok_ld0 (t := 4) (i := 3) (zrow_aload_n (k := 3) (md := zmd_0) zh_0 (by decide +kernel) rfl rfl))
theorem zr_0_410 : zOK zPre 0 410 (s_k (nat_lit 0) (nat_lit 411)) := ok_iconst (n := 0) (md := zmd_0) zh_0 (by decide +kernel) rfl (by decide +kernel)
theorem zr_0_411 : zOK zPre 0 411 (s_ald (nat_lit 21) (nat_lit 21) (nat_lit 412)) := ok_ald0 (by decide) (by decide) (by decide) (zrow_laload (md := zmd_0) zh_0 (by decide +kernel) rfl)
theorem zr_0_412 : zOK zPre 0 412 (s_ld (nat_lit 45067) (nat_lit 7) (nat_lit 414)) := ok_ld0 (t := 0) (i := 7) (zrow_iload (md := zmd_0) zh_0 (by decide +kernel) rfl)
theorem zr_0_414 : zOK zPre 0 414 (s_i2l (nat_lit 415)) := ok_i2l (md := zmd_0) zh_0 (by decide +kernel) rfl
theorem zr_0_415 : zOK zPre 0 415 (s_lcmp (nat_lit 416)) := ok_lcmp (md := zmd_0) zh_0 (by decide +kernel) rfl
theorem zr_0_416 : zOK zPre 0 416 (s_if (nat_lit 0) zi_eq (nat_lit 421) (nat_lit 419)) := ok_if_eq (off := 5) (md := zmd_0) zh_0 (by decide +kernel) (by decide +kernel) rfl
theorem zr_0_421 : zOK zPre 0 421 (s_go (nat_lit 2913)) := ok_go (off := 2492) (md := zmd_0) zh_0 (by decide +kernel) (by decide +kernel)
theorem zr_0_424 : zOK zPre 0 424 (s_ld_1 (nat_lit 1136) (nat_lit 425)) := zokE (zld_1 _ _) (ok_ld0 (t := 4) (i := 1) (zrow_aload_n (k := 1) (md := zmd_0) zh_0 (by decide +kernel) rfl rfl))
theorem zr_0_425 : zOK zPre 0 425 (s_ld_0 (nat_lit 1136) (nat_lit 426)) := zokE (zld_0 _ _) (ok_ld0 (t := 4) (i := 0) (zrow_aload_n (k := 0) (md := zmd_0) zh_0 (by decide +kernel) rfl rfl))
theorem zr_0_426 : zOK zPre 0 426 (s_ld_5 (nat_lit 45067) (nat_lit 428)) := zokE (zld_5 _ _) (ok_ld0 (t := 0) (i := 5) (zrow_iload (md := zmd_0) zh_0 (by decide +kernel) rfl))
theorem zr_0_428 : zOK zPre 0 428 (s_k (nat_lit 16) (nat_lit 429)) := ok_iconst (n := 1) (md := zmd_0) zh_0 (by decide +kernel) rfl (by decide +kernel)
theorem zr_0_429 : zOK zPre 0 429 (s_iadd (nat_lit 430)) := ok_iadd (md := zmd_0) zh_0 (by decide +kernel) rfl
theorem zr_0_430 : zOK zPre 0 430 (s_sld (nat_lit 431)) := ok_sld (md := zmd_0) zh_0 (by decide +kernel) rfl
theorem zr_0_431 : zOK zPre 0 431 (s_ld_0 (nat_lit 1136) (nat_lit 432)) := zokE (zld_0 _ _) (ok_ld0 (t := 4) (i := 0) (zrow_aload_n (k := 0) (md := zmd_0) zh_0 (by decide +kernel) rfl rfl))
theorem zr_0_432 : zOK zPre 0 432 (s_ld_5 (nat_lit 45067) (nat_lit 434)) := zokE (zld_5 _ _) (ok_ld0 (t := 0) (i := 5) (zrow_iload (md := zmd_0) zh_0 (by decide +kernel) rfl))
theorem zr_0_434 : zOK zPre 0 434 (s_k (nat_lit 32) (nat_lit 435)) := ok_iconst (n := 2) (md := zmd_0) zh_0 (by decide +kernel) rfl (by decide +kernel)
theorem zr_0_435 : zOK zPre 0 435 (s_iadd (nat_lit 436)) := ok_iadd (md := zmd_0) zh_0 (by decide +kernel) rfl
theorem zr_0_436 : zOK zPre 0 436 (s_sld (nat_lit 437)) := ok_sld (md := zmd_0) zh_0 (by decide +kernel) rfl
theorem zr_0_437 : zOK zPre 0 437 (s_ld_3 (nat_lit 1136) (nat_lit 438)) := zokE (zld_3 _ _) (ok_ld0 (t := 4) (i := 3) (zrow_aload_n (k := 3) (md := zmd_0) zh_0 (by decide +kernel) rfl rfl))
theorem zr_0_438 : zOK zPre 0 438 (s_call (nat_lit 99) (nat_lit 56) (nat_lit 5) (nat_lit 4) (nat_lit 1) [] (nat_lit 441)) := ok_call (md := zmd_0) zh_0 zh_56 rfl (by decide) (by decide) (Or.inl rfl) zp_56 (zrow_callSX (mdc := zmd_56) (index := 162) (md := zmd_0) zh_0 (by decide +kernel) rfl rfl zc_56 zw_3_139 zw_3_140 zw_1_0 zd_56) trivial
theorem zr_0_441 : zOK zPre 0 441 (s_s1 (nat_lit 45067) (nat_lit 6) (nat_lit 443)) := ok_s10 (t := 0) (i := 6) (zrow_istore (md := zmd_0) zh_0 (by decide +kernel) rfl)
theorem zr_0_443 : zOK zPre 0 443 (s_ld_2 (nat_lit 1136) (nat_lit 444)) := zokE (zld_2 _ _) (ok_ld0 (t := 4) (i := 2) (zrow_aload_n (k := 2) (md := zmd_0) zh_0 (by decide +kernel) rfl rfl))
theorem zr_0_444 : zOK zPre 0 444 (s_ld_0 (nat_lit 1136) (nat_lit 445)) := zokE (zld_0 _ _) (ok_ld0 (t := 4) (i := 0) (zrow_aload_n (k := 0) (md := zmd_0) zh_0 (by decide +kernel) rfl rfl))
theorem zr_0_445 : zOK zPre 0 445 (s_ld_5 (nat_lit 45067) (nat_lit 447)) := zokE (zld_5 _ _) (ok_ld0 (t := 0) (i := 5) (zrow_iload (md := zmd_0) zh_0 (by decide +kernel) rfl))
theorem zr_0_447 : zOK zPre 0 447 (s_k (nat_lit 16) (nat_lit 448)) := ok_iconst (n := 1) (md := zmd_0) zh_0 (by decide +kernel) rfl (by decide +kernel)
theorem zr_0_448 : zOK zPre 0 448 (s_iadd (nat_lit 449)) := ok_iadd (md := zmd_0) zh_0 (by decide +kernel) rfl
theorem zr_0_449 : zOK zPre 0 449 (s_sld (nat_lit 450)) := ok_sld (md := zmd_0) zh_0 (by decide +kernel) rfl
theorem zr_0_450 : zOK zPre 0 450 (s_ld_0 (nat_lit 1136) (nat_lit 451)) := zokE (zld_0 _ _) (ok_ld0 (t := 4) (i := 0) (zrow_aload_n (k := 0) (md := zmd_0) zh_0 (by decide +kernel) rfl rfl))
theorem zr_0_451 : zOK zPre 0 451 (s_ld_5 (nat_lit 45067) (nat_lit 453)) := zokE (zld_5 _ _) (ok_ld0 (t := 0) (i := 5) (zrow_iload (md := zmd_0) zh_0 (by decide +kernel) rfl))
theorem zr_0_453 : zOK zPre 0 453 (s_k (nat_lit 32) (nat_lit 454)) := ok_iconst (n := 2) (md := zmd_0) zh_0 (by decide +kernel) rfl (by decide +kernel)
theorem zr_0_454 : zOK zPre 0 454 (s_iadd (nat_lit 455)) := ok_iadd (md := zmd_0) zh_0 (by decide +kernel) rfl
theorem zr_0_455 : zOK zPre 0 455 (s_sld (nat_lit 456)) := ok_sld (md := zmd_0) zh_0 (by decide +kernel) rfl
theorem zr_0_456 : zOK zPre 0 456 (s_call (nat_lit 10) (nat_lit 58) (nat_lit 3) (nat_lit 3) (nat_lit 1) [] (nat_lit 459)) := ok_call (md := zmd_0) zh_0 zh_58 rfl (by decide) (by decide) (Or.inr (by decide)) zp_58 (zrow_callV (mdc := zmd_58) (index := 165) (md := zmd_0) zh_0 (by decide +kernel) rfl rfl zc_58 rfl (by decide) zw_7_157 zw_7_158 zw_7_159 zw_1_10 zd_58) trivial
theorem zr_0_459 : zOK zPre 0 459 (s_s1 (nat_lit 45067) (nat_lit 7) (nat_lit 461)) := ok_s10 (t := 0) (i := 7) (zrow_istore (md := zmd_0) zh_0 (by decide +kernel) rfl)
theorem zr_0_461 : zOK zPre 0 461 (s_ld_2 (nat_lit 1136) (nat_lit 462)) := zokE (zld_2 _ _) (ok_ld0 (t := 4) (i := 2) (zrow_aload_n (k := 2) (md := zmd_0) zh_0 (by decide +kernel) rfl rfl))
theorem zr_0_462 : zOK zPre 0 462 (s_call (nat_lit 10) (nat_lit 39) (nat_lit 1) (nat_lit 1) (nat_lit 1) [] (nat_lit 465)) := ok_call (md := zmd_0) zh_0 zh_39 rfl (by decide) (by decide) (Or.inr (by decide)) zp_39 (zrow_callV (mdc := zmd_39) (index := 155) (md := zmd_0) zh_0 (by decide +kernel) rfl rfl zc_39 rfl (by decide) zw_7_66 zw_7_67 zw_7_68 zw_1_10 zd_39) trivial
theorem zr_0_465 : zOK zPre 0 465 (s_ld (nat_lit 45067) (nat_lit 6) (nat_lit 467)) := ok_ld0 (t := 0) (i := 6) (zrow_iload (md := zmd_0) zh_0 (by decide +kernel) rfl)
theorem zr_0_467 : zOK zPre 0 467 (s_ic (nat_lit 0) zu_eq (nat_lit 472) (nat_lit 470)) := ok_ic_eq (off := 5) (md := zmd_0) zh_0 (by decide +kernel) (by decide +kernel) rfl
theorem zr_0_472 : zOK zPre 0 472 (s_ld (nat_lit 45067) (nat_lit 6) (nat_lit 474)) := ok_ld0 (t := 0) (i := 6) (zrow_iload (md := zmd_0) zh_0 (by decide +kernel) rfl)
theorem zr_0_474 : zOK zPre 0 474 (s_if (nat_lit 1) zi_ne (nat_lit 489) (nat_lit 477)) := ok_if_ne (off := 15) (md := zmd_0) zh_0 (by decide +kernel) (by decide +kernel) rfl
theorem zr_0_477 : zOK zPre 0 477 (s_ld_3 (nat_lit 1136) (nat_lit 478)) := zokE (zld_3 _ _) (ok_ld0 (t := 4) (i := 3) (zrow_aload_n (k := 3) (md := zmd_0) zh_0 (by decide +kernel) rfl rfl))
theorem zr_0_478 : zOK zPre 0 478 (s_k (nat_lit 0) (nat_lit 479)) := ok_iconst (n := 0) (md := zmd_0) zh_0 (by decide +kernel) rfl (by decide +kernel)
theorem zr_0_479 : zOK zPre 0 479 (s_ald (nat_lit 21) (nat_lit 21) (nat_lit 480)) := ok_ald0 (by decide) (by decide) (by decide) (zrow_laload (md := zmd_0) zh_0 (by decide +kernel) rfl)
theorem zr_0_480 : zOK zPre 0 480 (s_ld (nat_lit 45067) (nat_lit 7) (nat_lit 482)) := ok_ld0 (t := 0) (i := 7) (zrow_iload (md := zmd_0) zh_0 (by decide +kernel) rfl)
theorem zr_0_482 : zOK zPre 0 482 (s_i2l (nat_lit 483)) := ok_i2l (md := zmd_0) zh_0 (by decide +kernel) rfl
theorem zr_0_483 : zOK zPre 0 483 (s_lcmp (nat_lit 484)) := ok_lcmp (md := zmd_0) zh_0 (by decide +kernel) rfl
theorem zr_0_484 : zOK zPre 0 484 (s_if (nat_lit 0) zi_eq (nat_lit 489) (nat_lit 487)) := ok_if_eq (off := 5) (md := zmd_0) zh_0 (by decide +kernel) (by decide +kernel) rfl
theorem zr_0_489 : zOK zPre 0 489 (s_go (nat_lit 2913)) := ok_go (off := 2424) (md := zmd_0) zh_0 (by decide +kernel) (by decide +kernel)
theorem zr_0_492 : zOK zPre 0 492 (s_ld_1 (nat_lit 1136) (nat_lit 493)) := zokE (zld_1 _ _) (ok_ld0 (t := 4) (i := 1) (zrow_aload_n (k := 1) (md := zmd_0) zh_0 (by decide +kernel) rfl rfl))
theorem zr_0_493 : zOK zPre 0 493 (s_ld_0 (nat_lit 1136) (nat_lit 494)) := zokE (zld_0 _ _) (ok_ld0 (t := 4) (i := 0) (zrow_aload_n (k := 0) (md := zmd_0) zh_0 (by decide +kernel) rfl rfl))
theorem zr_0_494 : zOK zPre 0 494 (s_ld_5 (nat_lit 45067) (nat_lit 496)) := zokE (zld_5 _ _) (ok_ld0 (t := 0) (i := 5) (zrow_iload (md := zmd_0) zh_0 (by decide +kernel) rfl))
theorem zr_0_496 : zOK zPre 0 496 (s_k (nat_lit 16) (nat_lit 497)) := ok_iconst (n := 1) (md := zmd_0) zh_0 (by decide +kernel) rfl (by decide +kernel)
theorem zr_0_497 : zOK zPre 0 497 (s_iadd (nat_lit 498)) := ok_iadd (md := zmd_0) zh_0 (by decide +kernel) rfl
theorem zr_0_498 : zOK zPre 0 498 (s_sld (nat_lit 499)) := ok_sld (md := zmd_0) zh_0 (by decide +kernel) rfl
theorem zr_0_499 : zOK zPre 0 499 (s_ld_0 (nat_lit 1136) (nat_lit 500)) := zokE (zld_0 _ _) (ok_ld0 (t := 4) (i := 0) (zrow_aload_n (k := 0) (md := zmd_0) zh_0 (by decide +kernel) rfl rfl))
theorem zr_0_500 : zOK zPre 0 500 (s_ld_5 (nat_lit 45067) (nat_lit 502)) := zokE (zld_5 _ _) (ok_ld0 (t := 0) (i := 5) (zrow_iload (md := zmd_0) zh_0 (by decide +kernel) rfl))
theorem zr_0_502 : zOK zPre 0 502 (s_k (nat_lit 32) (nat_lit 503)) := ok_iconst (n := 2) (md := zmd_0) zh_0 (by decide +kernel) rfl (by decide +kernel)
theorem zr_0_503 : zOK zPre 0 503 (s_iadd (nat_lit 504)) := ok_iadd (md := zmd_0) zh_0 (by decide +kernel) rfl
theorem zr_0_504 : zOK zPre 0 504 (s_sld (nat_lit 505)) := ok_sld (md := zmd_0) zh_0 (by decide +kernel) rfl
theorem zr_0_505 : zOK zPre 0 505 (s_ld_3 (nat_lit 1136) (nat_lit 506)) := zokE (zld_3 _ _) (ok_ld0 (t := 4) (i := 3) (zrow_aload_n (k := 3) (md := zmd_0) zh_0 (by decide +kernel) rfl rfl))
theorem zr_0_506 : zOK zPre 0 506 (s_call (nat_lit 99) (nat_lit 59) (nat_lit 5) (nat_lit 4) (nat_lit 1) [] (nat_lit 509)) := ok_call (md := zmd_0) zh_0 zh_59 rfl (by decide) (by decide) (Or.inl rfl) zp_59 (zrow_callSX (mdc := zmd_59) (index := 166) (md := zmd_0) zh_0 (by decide +kernel) rfl rfl zc_59 zw_3_146 zw_3_147 zw_1_0 zd_59) trivial
theorem zr_0_509 : zOK zPre 0 509 (s_s1 (nat_lit 45067) (nat_lit 6) (nat_lit 511)) := ok_s10 (t := 0) (i := 6) (zrow_istore (md := zmd_0) zh_0 (by decide +kernel) rfl)
theorem zr_0_511 : zOK zPre 0 511 (s_ld_2 (nat_lit 1136) (nat_lit 512)) := zokE (zld_2 _ _) (ok_ld0 (t := 4) (i := 2) (zrow_aload_n (k := 2) (md := zmd_0) zh_0 (by decide +kernel) rfl rfl))
theorem zr_0_512 : zOK zPre 0 512 (s_ld_0 (nat_lit 1136) (nat_lit 513)) := zokE (zld_0 _ _) (ok_ld0 (t := 4) (i := 0) (zrow_aload_n (k := 0) (md := zmd_0) zh_0 (by decide +kernel) rfl rfl))
theorem zr_0_513 : zOK zPre 0 513 (s_ld_5 (nat_lit 45067) (nat_lit 515)) := zokE (zld_5 _ _) (ok_ld0 (t := 0) (i := 5) (zrow_iload (md := zmd_0) zh_0 (by decide +kernel) rfl))
theorem zr_0_515 : zOK zPre 0 515 (s_k (nat_lit 16) (nat_lit 516)) := ok_iconst (n := 1) (md := zmd_0) zh_0 (by decide +kernel) rfl (by decide +kernel)
theorem zr_0_516 : zOK zPre 0 516 (s_iadd (nat_lit 517)) := ok_iadd (md := zmd_0) zh_0 (by decide +kernel) rfl
theorem zr_0_517 : zOK zPre 0 517 (s_sld (nat_lit 518)) := ok_sld (md := zmd_0) zh_0 (by decide +kernel) rfl
theorem zr_0_518 : zOK zPre 0 518 (s_ld_0 (nat_lit 1136) (nat_lit 519)) := zokE (zld_0 _ _) (ok_ld0 (t := 4) (i := 0) (zrow_aload_n (k := 0) (md := zmd_0) zh_0 (by decide +kernel) rfl rfl))
theorem zr_0_519 : zOK zPre 0 519 (s_ld_5 (nat_lit 45067) (nat_lit 521)) := zokE (zld_5 _ _) (ok_ld0 (t := 0) (i := 5) (zrow_iload (md := zmd_0) zh_0 (by decide +kernel) rfl))
theorem zr_0_521 : zOK zPre 0 521 (s_k (nat_lit 32) (nat_lit 522)) := ok_iconst (n := 2) (md := zmd_0) zh_0 (by decide +kernel) rfl (by decide +kernel)
theorem zr_0_522 : zOK zPre 0 522 (s_iadd (nat_lit 523)) := ok_iadd (md := zmd_0) zh_0 (by decide +kernel) rfl
theorem zr_0_523 : zOK zPre 0 523 (s_sld (nat_lit 524)) := ok_sld (md := zmd_0) zh_0 (by decide +kernel) rfl
theorem zr_0_524 : zOK zPre 0 524 (s_call (nat_lit 10) (nat_lit 64) (nat_lit 3) (nat_lit 3) (nat_lit 1) [] (nat_lit 527)) := ok_call (md := zmd_0) zh_0 zh_64 rfl (by decide) (by decide) (Or.inr (by decide)) zp_64 (zrow_callV (mdc := zmd_64) (index := 168) (md := zmd_0) zh_0 (by decide +kernel) rfl rfl zc_64 rfl (by decide) zw_7_161 zw_7_162 zw_7_163 zw_1_10 zd_64) trivial
theorem zr_0_527 : zOK zPre 0 527 (s_s2 (nat_lit 18436) (nat_lit 7) (nat_lit 529)) := ok_s20 (t := 1) (i := 7) (zrow_lstore (md := zmd_0) zh_0 (by decide +kernel) rfl)
theorem zr_0_529 : zOK zPre 0 529 (s_ld_2 (nat_lit 1136) (nat_lit 530)) := zokE (zld_2 _ _) (ok_ld0 (t := 4) (i := 2) (zrow_aload_n (k := 2) (md := zmd_0) zh_0 (by decide +kernel) rfl rfl))
theorem zr_0_530 : zOK zPre 0 530 (s_call (nat_lit 10) (nat_lit 39) (nat_lit 1) (nat_lit 1) (nat_lit 1) [] (nat_lit 533)) := ok_call (md := zmd_0) zh_0 zh_39 rfl (by decide) (by decide) (Or.inr (by decide)) zp_39 (zrow_callV (mdc := zmd_39) (index := 155) (md := zmd_0) zh_0 (by decide +kernel) rfl rfl zc_39 rfl (by decide) zw_7_66 zw_7_67 zw_7_68 zw_1_10 zd_39) trivial
theorem zr_0_533 : zOK zPre 0 533 (s_ld (nat_lit 45067) (nat_lit 6) (nat_lit 535)) := ok_ld0 (t := 0) (i := 6) (zrow_iload (md := zmd_0) zh_0 (by decide +kernel) rfl)
theorem zr_0_535 : zOK zPre 0 535 (s_ic (nat_lit 0) zu_eq (nat_lit 540) (nat_lit 538)) := ok_ic_eq (off := 5) (md := zmd_0) zh_0 (by decide +kernel) (by decide +kernel) rfl
theorem zr_0_540 : zOK zPre 0 540 (s_ld (nat_lit 45067) (nat_lit 6) (nat_lit 542)) := ok_ld0 (t := 0) (i := 6) (zrow_iload (md := zmd_0) zh_0 (by decide +kernel) rfl)
theorem zr_0_542 : zOK zPre 0 542 (s_if (nat_lit 1) zi_ne (nat_lit 556) (nat_lit 545)) := ok_if_ne (off := 14) (md := zmd_0) zh_0 (by decide +kernel) (by decide +kernel) rfl
theorem zr_0_545 : zOK zPre 0 545 (s_ld_3 (nat_lit 1136) (nat_lit 546)) := zokE (zld_3 _ _) (ok_ld0 (t := 4) (i := 3) (zrow_aload_n (k := 3) (md := zmd_0) zh_0 (by decide +kernel) rfl rfl))
theorem zr_0_546 : zOK zPre 0 546 (s_k (nat_lit 0) (nat_lit 547)) := ok_iconst (n := 0) (md := zmd_0) zh_0 (by decide +kernel) rfl (by decide +kernel)
theorem zr_0_547 : zOK zPre 0 547 (s_ald (nat_lit 21) (nat_lit 21) (nat_lit 548)) := ok_ald0 (by decide) (by decide) (by decide) (zrow_laload (md := zmd_0) zh_0 (by decide +kernel) rfl)
theorem zr_0_548 : zOK zPre 0 548 (s_ld (nat_lit 18436) (nat_lit 7) (nat_lit 550)) := ok_ld0 (t := 1) (i := 7) (zrow_lload (md := zmd_0) zh_0 (by decide +kernel) rfl)
theorem zr_0_550 : zOK zPre 0 550 (s_lcmp (nat_lit 551)) := ok_lcmp (md := zmd_0) zh_0 (by decide +kernel) rfl
theorem zr_0_551 : zOK zPre 0 551 (s_if (nat_lit 0) zi_eq (nat_lit 556) (nat_lit 554)) := ok_if_eq (off := 5) (md := zmd_0) zh_0 (by decide +kernel) (by decide +kernel) rfl
theorem zr_0_556 : zOK zPre 0 556 (s_go (nat_lit 2913)) := ok_go (off := 2357) (md := zmd_0) zh_0 (by decide +kernel) (by decide +kernel)
theorem zr_0_559 : zOK zPre 0 559 (s_ld_1 (nat_lit 1136) (nat_lit 560)) := zokE (zld_1 _ _) (ok_ld0 (t := 4) (i := 1) (zrow_aload_n (k := 1) (md := zmd_0) zh_0 (by decide +kernel) rfl rfl))
theorem zr_0_560 : zOK zPre 0 560 (s_ld_0 (nat_lit 1136) (nat_lit 561)) := zokE (zld_0 _ _) (ok_ld0 (t := 4) (i := 0) (zrow_aload_n (k := 0) (md := zmd_0) zh_0 (by decide +kernel) rfl rfl))
theorem zr_0_561 : zOK zPre 0 561 (s_ld_5 (nat_lit 45067) (nat_lit 563)) := zokE (zld_5 _ _) (ok_ld0 (t := 0) (i := 5) (zrow_iload (md := zmd_0) zh_0 (by decide +kernel) rfl))
theorem zr_0_563 : zOK zPre 0 563 (s_k (nat_lit 16) (nat_lit 564)) := ok_iconst (n := 1) (md := zmd_0) zh_0 (by decide +kernel) rfl (by decide +kernel)
theorem zr_0_564 : zOK zPre 0 564 (s_iadd (nat_lit 565)) := ok_iadd (md := zmd_0) zh_0 (by decide +kernel) rfl
theorem zr_0_565 : zOK zPre 0 565 (s_sld (nat_lit 566)) := ok_sld (md := zmd_0) zh_0 (by decide +kernel) rfl
theorem zr_0_566 : zOK zPre 0 566 (s_ld_0 (nat_lit 1136) (nat_lit 567)) := zokE (zld_0 _ _) (ok_ld0 (t := 4) (i := 0) (zrow_aload_n (k := 0) (md := zmd_0) zh_0 (by decide +kernel) rfl rfl))
theorem zr_0_567 : zOK zPre 0 567 (s_ld_5 (nat_lit 45067) (nat_lit 569)) := zokE (zld_5 _ _) (ok_ld0 (t := 0) (i := 5) (zrow_iload (md := zmd_0) zh_0 (by decide +kernel) rfl))
theorem zr_0_569 : zOK zPre 0 569 (s_k (nat_lit 32) (nat_lit 570)) := ok_iconst (n := 2) (md := zmd_0) zh_0 (by decide +kernel) rfl (by decide +kernel)
theorem zr_0_570 : zOK zPre 0 570 (s_iadd (nat_lit 571)) := ok_iadd (md := zmd_0) zh_0 (by decide +kernel) rfl
theorem zr_0_571 : zOK zPre 0 571 (s_sld (nat_lit 572)) := ok_sld (md := zmd_0) zh_0 (by decide +kernel) rfl
theorem zr_0_572 : zOK zPre 0 572 (s_i2c (nat_lit 573)) := ok_i2c (md := zmd_0) zh_0 (by decide +kernel) rfl
theorem zr_0_573 : zOK zPre 0 573 (s_ld_3 (nat_lit 1136) (nat_lit 574)) := zokE (zld_3 _ _) (ok_ld0 (t := 4) (i := 3) (zrow_aload_n (k := 3) (md := zmd_0) zh_0 (by decide +kernel) rfl rfl))
theorem zr_0_574 : zOK zPre 0 574 (s_call (nat_lit 99) (nat_lit 69) (nat_lit 5) (nat_lit 4) (nat_lit 1) [] (nat_lit 577)) := ok_call (md := zmd_0) zh_0 zh_69 rfl (by decide) (by decide) (Or.inl rfl) zp_69 (zrow_callSX (mdc := zmd_69) (index := 169) (md := zmd_0) zh_0 (by decide +kernel) rfl rfl zc_69 zw_3_174 zw_3_175 zw_1_0 zd_69) trivial
theorem zr_0_577 : zOK zPre 0 577 (s_s1 (nat_lit 45067) (nat_lit 6) (nat_lit 579)) := ok_s10 (t := 0) (i := 6) (zrow_istore (md := zmd_0) zh_0 (by decide +kernel) rfl)
theorem zr_0_579 : zOK zPre 0 579 (s_ld_2 (nat_lit 1136) (nat_lit 580)) := zokE (zld_2 _ _) (ok_ld0 (t := 4) (i := 2) (zrow_aload_n (k := 2) (md := zmd_0) zh_0 (by decide +kernel) rfl rfl))
theorem zr_0_580 : zOK zPre 0 580 (s_ld_0 (nat_lit 1136) (nat_lit 581)) := zokE (zld_0 _ _) (ok_ld0 (t := 4) (i := 0) (zrow_aload_n (k := 0) (md := zmd_0) zh_0 (by decide +kernel) rfl rfl))
theorem zr_0_581 : zOK zPre 0 581 (s_ld_5 (nat_lit 45067) (nat_lit 583)) := zokE (zld_5 _ _) (ok_ld0 (t := 0) (i := 5) (zrow_iload (md := zmd_0) zh_0 (by decide +kernel) rfl))
theorem zr_0_583 : zOK zPre 0 583 (s_k (nat_lit 16) (nat_lit 584)) := ok_iconst (n := 1) (md := zmd_0) zh_0 (by decide +kernel) rfl (by decide +kernel)
theorem zr_0_584 : zOK zPre 0 584 (s_iadd (nat_lit 585)) := ok_iadd (md := zmd_0) zh_0 (by decide +kernel) rfl
theorem zr_0_585 : zOK zPre 0 585 (s_sld (nat_lit 586)) := ok_sld (md := zmd_0) zh_0 (by decide +kernel) rfl
theorem zr_0_586 : zOK zPre 0 586 (s_ld_0 (nat_lit 1136) (nat_lit 587)) := zokE (zld_0 _ _) (ok_ld0 (t := 4) (i := 0) (zrow_aload_n (k := 0) (md := zmd_0) zh_0 (by decide +kernel) rfl rfl))
theorem zr_0_587 : zOK zPre 0 587 (s_ld_5 (nat_lit 45067) (nat_lit 589)) := zokE (zld_5 _ _) (ok_ld0 (t := 0) (i := 5) (zrow_iload (md := zmd_0) zh_0 (by decide +kernel) rfl))
theorem zr_0_589 : zOK zPre 0 589 (s_k (nat_lit 32) (nat_lit 590)) := ok_iconst (n := 2) (md := zmd_0) zh_0 (by decide +kernel) rfl (by decide +kernel)
theorem zr_0_590 : zOK zPre 0 590 (s_iadd (nat_lit 591)) := ok_iadd (md := zmd_0) zh_0 (by decide +kernel) rfl
theorem zr_0_591 : zOK zPre 0 591 (s_sld (nat_lit 592)) := ok_sld (md := zmd_0) zh_0 (by decide +kernel) rfl
theorem zr_0_592 : zOK zPre 0 592 (s_i2c (nat_lit 593)) := ok_i2c (md := zmd_0) zh_0 (by decide +kernel) rfl
theorem zr_0_593 : zOK zPre 0 593 (s_call (nat_lit 10) (nat_lit 71) (nat_lit 4) (nat_lit 3) (nat_lit 1) [] (nat_lit 596)) := ok_call (md := zmd_0) zh_0 zh_71 rfl (by decide) (by decide) (Or.inr (by decide)) zp_71 (zrow_callV (mdc := zmd_71) (index := 172) (md := zmd_0) zh_0 (by decide +kernel) rfl rfl zc_71 rfl (by decide) zw_7_176 zw_7_177 zw_7_178 zw_1_10 zd_71) trivial
theorem zr_0_596 : zOK zPre 0 596 (s_s1 (nat_lit 45067) (nat_lit 7) (nat_lit 598)) := ok_s10 (t := 0) (i := 7) (zrow_istore (md := zmd_0) zh_0 (by decide +kernel) rfl)
theorem zr_0_598 : zOK zPre 0 598 (s_ld_2 (nat_lit 1136) (nat_lit 599)) := zokE (zld_2 _ _) (ok_ld0 (t := 4) (i := 2) (zrow_aload_n (k := 2) (md := zmd_0) zh_0 (by decide +kernel) rfl rfl))
theorem zr_0_599 : zOK zPre 0 599 (s_call (nat_lit 10) (nat_lit 39) (nat_lit 1) (nat_lit 1) (nat_lit 1) [] (nat_lit 602)) := ok_call (md := zmd_0) zh_0 zh_39 rfl (by decide) (by decide) (Or.inr (by decide)) zp_39 (zrow_callV (mdc := zmd_39) (index := 155) (md := zmd_0) zh_0 (by decide +kernel) rfl rfl zc_39 rfl (by decide) zw_7_66 zw_7_67 zw_7_68 zw_1_10 zd_39) trivial
theorem zr_0_602 : zOK zPre 0 602 (s_ld (nat_lit 45067) (nat_lit 6) (nat_lit 604)) := ok_ld0 (t := 0) (i := 6) (zrow_iload (md := zmd_0) zh_0 (by decide +kernel) rfl)
theorem zr_0_604 : zOK zPre 0 604 (s_ic (nat_lit 0) zu_eq (nat_lit 609) (nat_lit 607)) := ok_ic_eq (off := 5) (md := zmd_0) zh_0 (by decide +kernel) (by decide +kernel) rfl
theorem zr_0_609 : zOK zPre 0 609 (s_ld (nat_lit 45067) (nat_lit 6) (nat_lit 611)) := ok_ld0 (t := 0) (i := 6) (zrow_iload (md := zmd_0) zh_0 (by decide +kernel) rfl)
theorem zr_0_611 : zOK zPre 0 611 (s_if (nat_lit 1) zi_ne (nat_lit 626) (nat_lit 614)) := ok_if_ne (off := 15) (md := zmd_0) zh_0 (by decide +kernel) (by decide +kernel) rfl
theorem zr_0_614 : zOK zPre 0 614 (s_ld_3 (nat_lit 1136) (nat_lit 615)) := zokE (zld_3 _ _) (ok_ld0 (t := 4) (i := 3) (zrow_aload_n (k := 3) (md := zmd_0) zh_0 (by decide +kernel) rfl rfl))
theorem zr_0_615 : zOK zPre 0 615 (s_k (nat_lit 0) (nat_lit 616)) := ok_iconst (n := 0) (md := zmd_0) zh_0 (by decide +kernel) rfl (by decide +kernel)
theorem zr_0_616 : zOK zPre 0 616 (s_ald (nat_lit 21) (nat_lit 21) (nat_lit 617)) := ok_ald0 (by decide) (by decide) (by decide) (zrow_laload (md := zmd_0) zh_0 (by decide +kernel) rfl)
theorem zr_0_617 : zOK zPre 0 617 (s_ld (nat_lit 45067) (nat_lit 7) (nat_lit 619)) := ok_ld0 (t := 0) (i := 7) (zrow_iload (md := zmd_0) zh_0 (by decide +kernel) rfl)
theorem zr_0_619 : zOK zPre 0 619 (s_i2l (nat_lit 620)) := ok_i2l (md := zmd_0) zh_0 (by decide +kernel) rfl
theorem zr_0_620 : zOK zPre 0 620 (s_lcmp (nat_lit 621)) := ok_lcmp (md := zmd_0) zh_0 (by decide +kernel) rfl
theorem zr_0_621 : zOK zPre 0 621 (s_if (nat_lit 0) zi_eq (nat_lit 626) (nat_lit 624)) := ok_if_eq (off := 5) (md := zmd_0) zh_0 (by decide +kernel) (by decide +kernel) rfl
theorem zr_0_626 : zOK zPre 0 626 (s_go (nat_lit 2913)) := ok_go (off := 2287) (md := zmd_0) zh_0 (by decide +kernel) (by decide +kernel)
theorem zr_0_629 : zOK zPre 0 629 (s_ld_1 (nat_lit 1136) (nat_lit 630)) := zokE (zld_1 _ _) (ok_ld0 (t := 4) (i := 1) (zrow_aload_n (k := 1) (md := zmd_0) zh_0 (by decide +kernel) rfl rfl))
theorem zr_0_630 : zOK zPre 0 630 (s_ld_0 (nat_lit 1136) (nat_lit 631)) := zokE (zld_0 _ _) (ok_ld0 (t := 4) (i := 0) (zrow_aload_n (k := 0) (md := zmd_0) zh_0 (by decide +kernel) rfl rfl))
theorem zr_0_631 : zOK zPre 0 631 (s_ld_5 (nat_lit 45067) (nat_lit 633)) := zokE (zld_5 _ _) (ok_ld0 (t := 0) (i := 5) (zrow_iload (md := zmd_0) zh_0 (by decide +kernel) rfl))
theorem zr_0_633 : zOK zPre 0 633 (s_k (nat_lit 16) (nat_lit 634)) := ok_iconst (n := 1) (md := zmd_0) zh_0 (by decide +kernel) rfl (by decide +kernel)
theorem zr_0_634 : zOK zPre 0 634 (s_iadd (nat_lit 635)) := ok_iadd (md := zmd_0) zh_0 (by decide +kernel) rfl
theorem zr_0_635 : zOK zPre 0 635 (s_sld (nat_lit 636)) := ok_sld (md := zmd_0) zh_0 (by decide +kernel) rfl
theorem zr_0_636 : zOK zPre 0 636 (s_ld_3 (nat_lit 1136) (nat_lit 637)) := zokE (zld_3 _ _) (ok_ld0 (t := 4) (i := 3) (zrow_aload_n (k := 3) (md := zmd_0) zh_0 (by decide +kernel) rfl rfl))
theorem zr_0_637 : zOK zPre 0 637 (s_call (nat_lit 99) (nat_lit 83) (nat_lit 4) (nat_lit 3) (nat_lit 1) [] (nat_lit 640)) := ok_call (md := zmd_0) zh_0 zh_83 rfl (by decide) (by decide) (Or.inl rfl) zp_83 (zrow_callSX (mdc := zmd_83) (index := 173) (md := zmd_0) zh_0 (by decide +kernel) rfl rfl zc_83 zw_3_193 zw_3_194 zw_1_0 zd_83) trivial
theorem zr_0_640 : zOK zPre 0 640 (s_s1 (nat_lit 45067) (nat_lit 6) (nat_lit 642)) := ok_s10 (t := 0) (i := 6) (zrow_istore (md := zmd_0) zh_0 (by decide +kernel) rfl)
theorem zr_0_642 : zOK zPre 0 642 (s_ld_2 (nat_lit 1136) (nat_lit 643)) := zokE (zld_2 _ _) (ok_ld0 (t := 4) (i := 2) (zrow_aload_n (k := 2) (md := zmd_0) zh_0 (by decide +kernel) rfl rfl))
theorem zr_0_643 : zOK zPre 0 643 (s_ld_0 (nat_lit 1136) (nat_lit 644)) := zokE (zld_0 _ _) (ok_ld0 (t := 4) (i := 0) (zrow_aload_n (k := 0) (md := zmd_0) zh_0 (by decide +kernel) rfl rfl))
theorem zr_0_644 : zOK zPre 0 644 (s_ld_5 (nat_lit 45067) (nat_lit 646)) := zokE (zld_5 _ _) (ok_ld0 (t := 0) (i := 5) (zrow_iload (md := zmd_0) zh_0 (by decide +kernel) rfl))
theorem zr_0_646 : zOK zPre 0 646 (s_k (nat_lit 16) (nat_lit 647)) := ok_iconst (n := 1) (md := zmd_0) zh_0 (by decide +kernel) rfl (by decide +kernel)
theorem zr_0_647 : zOK zPre 0 647 (s_iadd (nat_lit 648)) := ok_iadd (md := zmd_0) zh_0 (by decide +kernel) rfl
theorem zr_0_648 : zOK zPre 0 648 (s_sld (nat_lit 649)) := ok_sld (md := zmd_0) zh_0 (by decide +kernel) rfl
theorem zr_0_649 : zOK zPre 0 649 (s_call (nat_lit 10) (nat_lit 85) (nat_lit 2) (nat_lit 2) (nat_lit 1) [] (nat_lit 652)) := ok_call (md := zmd_0) zh_0 zh_85 rfl (by decide) (by decide) (Or.inr (by decide)) zp_85 (zrow_callV (mdc := zmd_85) (index := 176) (md := zmd_0) zh_0 (by decide +kernel) rfl rfl zc_85 rfl (by decide) zw_8_33 zw_8_34 zw_8_35 zw_1_10 zd_85) trivial
theorem zr_0_652 : zOK zPre 0 652 (s_s1 (nat_lit 45067) (nat_lit 7) (nat_lit 654)) := ok_s10 (t := 0) (i := 7) (zrow_istore (md := zmd_0) zh_0 (by decide +kernel) rfl)
theorem zr_0_654 : zOK zPre 0 654 (s_ld_2 (nat_lit 1136) (nat_lit 655)) := zokE (zld_2 _ _) (ok_ld0 (t := 4) (i := 2) (zrow_aload_n (k := 2) (md := zmd_0) zh_0 (by decide +kernel) rfl rfl))
theorem zr_0_655 : zOK zPre 0 655 (s_call (nat_lit 10) (nat_lit 39) (nat_lit 1) (nat_lit 1) (nat_lit 1) [] (nat_lit 658)) := ok_call (md := zmd_0) zh_0 zh_39 rfl (by decide) (by decide) (Or.inr (by decide)) zp_39 (zrow_callV (mdc := zmd_39) (index := 155) (md := zmd_0) zh_0 (by decide +kernel) rfl rfl zc_39 rfl (by decide) zw_7_66 zw_7_67 zw_7_68 zw_1_10 zd_39) trivial
theorem zr_0_658 : zOK zPre 0 658 (s_ld (nat_lit 45067) (nat_lit 6) (nat_lit 660)) := ok_ld0 (t := 0) (i := 6) (zrow_iload (md := zmd_0) zh_0 (by decide +kernel) rfl)
theorem zr_0_660 : zOK zPre 0 660 (s_ic (nat_lit 0) zu_eq (nat_lit 665) (nat_lit 663)) := ok_ic_eq (off := 5) (md := zmd_0) zh_0 (by decide +kernel) (by decide +kernel) rfl
theorem zr_0_665 : zOK zPre 0 665 (s_ld (nat_lit 45067) (nat_lit 6) (nat_lit 667)) := ok_ld0 (t := 0) (i := 6) (zrow_iload (md := zmd_0) zh_0 (by decide +kernel) rfl)
theorem zr_0_667 : zOK zPre 0 667 (s_if (nat_lit 1) zi_ne (nat_lit 682) (nat_lit 670)) := ok_if_ne (off := 15) (md := zmd_0) zh_0 (by decide +kernel) (by decide +kernel) rfl
theorem zr_0_670 : zOK zPre 0 670 (s_ld_3 (nat_lit 1136) (nat_lit 671)) := zokE (zld_3 _ _) (ok_ld0 (t := 4) (i := 3) (zrow_aload_n (k := 3) (md := zmd_0) zh_0 (by decide +kernel) rfl rfl))
theorem zr_0_671 : zOK zPre 0 671 (s_k (nat_lit 0) (nat_lit 672)) := ok_iconst (n := 0) (md := zmd_0) zh_0 (by decide +kernel) rfl (by decide +kernel)
theorem zr_0_672 : zOK zPre 0 672 (s_ald (nat_lit 21) (nat_lit 21) (nat_lit 673)) := ok_ald0 (by decide) (by decide) (by decide) (zrow_laload (md := zmd_0) zh_0 (by decide +kernel) rfl)
theorem zr_0_673 : zOK zPre 0 673 (s_ld (nat_lit 45067) (nat_lit 7) (nat_lit 675)) := ok_ld0 (t := 0) (i := 7) (zrow_iload (md := zmd_0) zh_0 (by decide +kernel) rfl)
theorem zr_0_675 : zOK zPre 0 675 (s_i2l (nat_lit 676)) := ok_i2l (md := zmd_0) zh_0 (by decide +kernel) rfl
theorem zr_0_676 : zOK zPre 0 676 (s_lcmp (nat_lit 677)) := ok_lcmp (md := zmd_0) zh_0 (by decide +kernel) rfl
theorem zr_0_677 : zOK zPre 0 677 (s_if (nat_lit 0) zi_eq (nat_lit 682) (nat_lit 680)) := ok_if_eq (off := 5) (md := zmd_0) zh_0 (by decide +kernel) (by decide +kernel) rfl
theorem zr_0_682 : zOK zPre 0 682 (s_go (nat_lit 2913)) := ok_go (off := 2231) (md := zmd_0) zh_0 (by decide +kernel) (by decide +kernel)
theorem zr_0_685 : zOK zPre 0 685 (s_ld_1 (nat_lit 1136) (nat_lit 686)) := zokE (zld_1 _ _) (ok_ld0 (t := 4) (i := 1) (zrow_aload_n (k := 1) (md := zmd_0) zh_0 (by decide +kernel) rfl rfl))
theorem zr_0_686 : zOK zPre 0 686 (s_ld_0 (nat_lit 1136) (nat_lit 687)) := zokE (zld_0 _ _) (ok_ld0 (t := 4) (i := 0) (zrow_aload_n (k := 0) (md := zmd_0) zh_0 (by decide +kernel) rfl rfl))
theorem zr_0_687 : zOK zPre 0 687 (s_ld_5 (nat_lit 45067) (nat_lit 689)) := zokE (zld_5 _ _) (ok_ld0 (t := 0) (i := 5) (zrow_iload (md := zmd_0) zh_0 (by decide +kernel) rfl))
theorem zr_0_689 : zOK zPre 0 689 (s_k (nat_lit 16) (nat_lit 690)) := ok_iconst (n := 1) (md := zmd_0) zh_0 (by decide +kernel) rfl (by decide +kernel)
theorem zr_0_690 : zOK zPre 0 690 (s_iadd (nat_lit 691)) := ok_iadd (md := zmd_0) zh_0 (by decide +kernel) rfl
theorem zr_0_691 : zOK zPre 0 691 (s_sld (nat_lit 692)) := ok_sld (md := zmd_0) zh_0 (by decide +kernel) rfl
theorem zr_0_692 : zOK zPre 0 692 (s_ld_0 (nat_lit 1136) (nat_lit 693)) := zokE (zld_0 _ _) (ok_ld0 (t := 4) (i := 0) (zrow_aload_n (k := 0) (md := zmd_0) zh_0 (by decide +kernel) rfl rfl))
theorem zr_0_693 : zOK zPre 0 693 (s_ld_5 (nat_lit 45067) (nat_lit 695)) := zokE (zld_5 _ _) (ok_ld0 (t := 0) (i := 5) (zrow_iload (md := zmd_0) zh_0 (by decide +kernel) rfl))
theorem zr_0_695 : zOK zPre 0 695 (s_k (nat_lit 32) (nat_lit 696)) := ok_iconst (n := 2) (md := zmd_0) zh_0 (by decide +kernel) rfl (by decide +kernel)
theorem zr_0_696 : zOK zPre 0 696 (s_iadd (nat_lit 697)) := ok_iadd (md := zmd_0) zh_0 (by decide +kernel) rfl
theorem zr_0_697 : zOK zPre 0 697 (s_sld (nat_lit 698)) := ok_sld (md := zmd_0) zh_0 (by decide +kernel) rfl
theorem zr_0_698 : zOK zPre 0 698 (s_ld_3 (nat_lit 1136) (nat_lit 699)) := zokE (zld_3 _ _) (ok_ld0 (t := 4) (i := 3) (zrow_aload_n (k := 3) (md := zmd_0) zh_0 (by decide +kernel) rfl rfl))
theorem zr_0_699 : zOK zPre 0 699 (s_call (nat_lit 99) (nat_lit 86) (nat_lit 5) (nat_lit 4) (nat_lit 1) [] (nat_lit 702)) := ok_call (md := zmd_0) zh_0 zh_86 rfl (by decide) (by decide) (Or.inl rfl) zp_86 (zrow_callSX (mdc := zmd_86) (index := 177) (md := zmd_0) zh_0 (by decide +kernel) rfl rfl zc_86 zw_3_217 zw_3_218 zw_1_0 zd_86) trivial
theorem zr_0_702 : zOK zPre 0 702 (s_s1 (nat_lit 45067) (nat_lit 6) (nat_lit 704)) := ok_s10 (t := 0) (i := 6) (zrow_istore (md := zmd_0) zh_0 (by decide +kernel) rfl)
theorem zr_0_704 : zOK zPre 0 704 (s_ld_2 (nat_lit 1136) (nat_lit 705)) := zokE (zld_2 _ _) (ok_ld0 (t := 4) (i := 2) (zrow_aload_n (k := 2) (md := zmd_0) zh_0 (by decide +kernel) rfl rfl))
theorem zr_0_705 : zOK zPre 0 705 (s_ld_0 (nat_lit 1136) (nat_lit 706)) := zokE (zld_0 _ _) (ok_ld0 (t := 4) (i := 0) (zrow_aload_n (k := 0) (md := zmd_0) zh_0 (by decide +kernel) rfl rfl))
theorem zr_0_706 : zOK zPre 0 706 (s_ld_5 (nat_lit 45067) (nat_lit 708)) := zokE (zld_5 _ _) (ok_ld0 (t := 0) (i := 5) (zrow_iload (md := zmd_0) zh_0 (by decide +kernel) rfl))
theorem zr_0_708 : zOK zPre 0 708 (s_k (nat_lit 16) (nat_lit 709)) := ok_iconst (n := 1) (md := zmd_0) zh_0 (by decide +kernel) rfl (by decide +kernel)
theorem zr_0_709 : zOK zPre 0 709 (s_iadd (nat_lit 710)) := ok_iadd (md := zmd_0) zh_0 (by decide +kernel) rfl
theorem zr_0_710 : zOK zPre 0 710 (s_sld (nat_lit 711)) := ok_sld (md := zmd_0) zh_0 (by decide +kernel) rfl
theorem zr_0_711 : zOK zPre 0 711 (s_ld_0 (nat_lit 1136) (nat_lit 712)) := zokE (zld_0 _ _) (ok_ld0 (t := 4) (i := 0) (zrow_aload_n (k := 0) (md := zmd_0) zh_0 (by decide +kernel) rfl rfl))
theorem zr_0_712 : zOK zPre 0 712 (s_ld_5 (nat_lit 45067) (nat_lit 714)) := zokE (zld_5 _ _) (ok_ld0 (t := 0) (i := 5) (zrow_iload (md := zmd_0) zh_0 (by decide +kernel) rfl))
theorem zr_0_714 : zOK zPre 0 714 (s_k (nat_lit 32) (nat_lit 715)) := ok_iconst (n := 2) (md := zmd_0) zh_0 (by decide +kernel) rfl (by decide +kernel)
theorem zr_0_715 : zOK zPre 0 715 (s_iadd (nat_lit 716)) := ok_iadd (md := zmd_0) zh_0 (by decide +kernel) rfl
theorem zr_0_716 : zOK zPre 0 716 (s_sld (nat_lit 717)) := ok_sld (md := zmd_0) zh_0 (by decide +kernel) rfl
theorem zr_0_717 : zOK zPre 0 717 (s_call (nat_lit 10) (nat_lit 88) (nat_lit 3) (nat_lit 3) (nat_lit 1) [] (nat_lit 720)) := ok_call (md := zmd_0) zh_0 zh_88 rfl (by decide) (by decide) (Or.inr (by decide)) zp_88 (zrow_callV (mdc := zmd_88) (index := 179) (md := zmd_0) zh_0 (by decide +kernel) rfl rfl zc_88 rfl (by decide) zw_8_37 zw_8_38 zw_8_39 zw_1_10 zd_88) trivial
theorem zr_0_720 : zOK zPre 0 720 (s_s1 (nat_lit 45067) (nat_lit 7) (nat_lit 722)) := ok_s10 (t := 0) (i := 7) (zrow_istore (md := zmd_0) zh_0 (by decide +kernel) rfl)
theorem zr_0_722 : zOK zPre 0 722 (s_ld_2 (nat_lit 1136) (nat_lit 723)) := zokE (zld_2 _ _) (ok_ld0 (t := 4) (i := 2) (zrow_aload_n (k := 2) (md := zmd_0) zh_0 (by decide +kernel) rfl rfl))
theorem zr_0_723 : zOK zPre 0 723 (s_call (nat_lit 10) (nat_lit 39) (nat_lit 1) (nat_lit 1) (nat_lit 1) [] (nat_lit 726)) := ok_call (md := zmd_0) zh_0 zh_39 rfl (by decide) (by decide) (Or.inr (by decide)) zp_39 (zrow_callV (mdc := zmd_39) (index := 155) (md := zmd_0) zh_0 (by decide +kernel) rfl rfl zc_39 rfl (by decide) zw_7_66 zw_7_67 zw_7_68 zw_1_10 zd_39) trivial
theorem zr_0_726 : zOK zPre 0 726 (s_ld (nat_lit 45067) (nat_lit 6) (nat_lit 728)) := ok_ld0 (t := 0) (i := 6) (zrow_iload (md := zmd_0) zh_0 (by decide +kernel) rfl)
theorem zr_0_728 : zOK zPre 0 728 (s_ic (nat_lit 0) zu_eq (nat_lit 733) (nat_lit 731)) := ok_ic_eq (off := 5) (md := zmd_0) zh_0 (by decide +kernel) (by decide +kernel) rfl
theorem zr_0_733 : zOK zPre 0 733 (s_ld (nat_lit 45067) (nat_lit 6) (nat_lit 735)) := ok_ld0 (t := 0) (i := 6) (zrow_iload (md := zmd_0) zh_0 (by decide +kernel) rfl)
theorem zr_0_735 : zOK zPre 0 735 (s_if (nat_lit 1) zi_ne (nat_lit 750) (nat_lit 738)) := ok_if_ne (off := 15) (md := zmd_0) zh_0 (by decide +kernel) (by decide +kernel) rfl
theorem zr_0_738 : zOK zPre 0 738 (s_ld_3 (nat_lit 1136) (nat_lit 739)) := zokE (zld_3 _ _) (ok_ld0 (t := 4) (i := 3) (zrow_aload_n (k := 3) (md := zmd_0) zh_0 (by decide +kernel) rfl rfl))
theorem zr_0_739 : zOK zPre 0 739 (s_k (nat_lit 0) (nat_lit 740)) := ok_iconst (n := 0) (md := zmd_0) zh_0 (by decide +kernel) rfl (by decide +kernel)
theorem zr_0_740 : zOK zPre 0 740 (s_ald (nat_lit 21) (nat_lit 21) (nat_lit 741)) := ok_ald0 (by decide) (by decide) (by decide) (zrow_laload (md := zmd_0) zh_0 (by decide +kernel) rfl)
theorem zr_0_741 : zOK zPre 0 741 (s_ld (nat_lit 45067) (nat_lit 7) (nat_lit 743)) := ok_ld0 (t := 0) (i := 7) (zrow_iload (md := zmd_0) zh_0 (by decide +kernel) rfl)
theorem zr_0_743 : zOK zPre 0 743 (s_i2l (nat_lit 744)) := ok_i2l (md := zmd_0) zh_0 (by decide +kernel) rfl
theorem zr_0_744 : zOK zPre 0 744 (s_lcmp (nat_lit 745)) := ok_lcmp (md := zmd_0) zh_0 (by decide +kernel) rfl
theorem zr_0_745 : zOK zPre 0 745 (s_if (nat_lit 0) zi_eq (nat_lit 750) (nat_lit 748)) := ok_if_eq (off := 5) (md := zmd_0) zh_0 (by decide +kernel) (by decide +kernel) rfl
theorem zr_0_750 : zOK zPre 0 750 (s_go (nat_lit 2913)) := ok_go (off := 2163) (md := zmd_0) zh_0 (by decide +kernel) (by decide +kernel)
theorem zr_0_753 : zOK zPre 0 753 (s_ld_1 (nat_lit 1136) (nat_lit 754)) := zokE (zld_1 _ _) (ok_ld0 (t := 4) (i := 1) (zrow_aload_n (k := 1) (md := zmd_0) zh_0 (by decide +kernel) rfl rfl))
theorem zr_0_754 : zOK zPre 0 754 (s_ld_0 (nat_lit 1136) (nat_lit 755)) := zokE (zld_0 _ _) (ok_ld0 (t := 4) (i := 0) (zrow_aload_n (k := 0) (md := zmd_0) zh_0 (by decide +kernel) rfl rfl))
theorem zr_0_755 : zOK zPre 0 755 (s_ld_5 (nat_lit 45067) (nat_lit 757)) := zokE (zld_5 _ _) (ok_ld0 (t := 0) (i := 5) (zrow_iload (md := zmd_0) zh_0 (by decide +kernel) rfl))
theorem zr_0_757 : zOK zPre 0 757 (s_k (nat_lit 16) (nat_lit 758)) := ok_iconst (n := 1) (md := zmd_0) zh_0 (by decide +kernel) rfl (by decide +kernel)
theorem zr_0_758 : zOK zPre 0 758 (s_iadd (nat_lit 759)) := ok_iadd (md := zmd_0) zh_0 (by decide +kernel) rfl
theorem zr_0_759 : zOK zPre 0 759 (s_sld (nat_lit 760)) := ok_sld (md := zmd_0) zh_0 (by decide +kernel) rfl
theorem zr_0_760 : zOK zPre 0 760 (s_i2c (nat_lit 761)) := ok_i2c (md := zmd_0) zh_0 (by decide +kernel) rfl
theorem zr_0_761 : zOK zPre 0 761 (s_ld_0 (nat_lit 1136) (nat_lit 762)) := zokE (zld_0 _ _) (ok_ld0 (t := 4) (i := 0) (zrow_aload_n (k := 0) (md := zmd_0) zh_0 (by decide +kernel) rfl rfl))
theorem zr_0_762 : zOK zPre 0 762 (s_ld_5 (nat_lit 45067) (nat_lit 764)) := zokE (zld_5 _ _) (ok_ld0 (t := 0) (i := 5) (zrow_iload (md := zmd_0) zh_0 (by decide +kernel) rfl))
theorem zr_0_764 : zOK zPre 0 764 (s_k (nat_lit 32) (nat_lit 765)) := ok_iconst (n := 2) (md := zmd_0) zh_0 (by decide +kernel) rfl (by decide +kernel)
theorem zr_0_765 : zOK zPre 0 765 (s_iadd (nat_lit 766)) := ok_iadd (md := zmd_0) zh_0 (by decide +kernel) rfl
theorem zr_0_766 : zOK zPre 0 766 (s_sld (nat_lit 767)) := ok_sld (md := zmd_0) zh_0 (by decide +kernel) rfl
theorem zr_0_767 : zOK zPre 0 767 (s_ld_0 (nat_lit 1136) (nat_lit 768)) := zokE (zld_0 _ _) (ok_ld0 (t := 4) (i := 0) (zrow_aload_n (k := 0) (md := zmd_0) zh_0 (by decide +kernel) rfl rfl))
theorem zr_0_768 : zOK zPre 0 768 (s_ld_5 (nat_lit 45067) (nat_lit 770)) := zokE (zld_5 _ _) (ok_ld0 (t := 0) (i := 5) (zrow_iload (md := zmd_0) zh_0 (by decide +kernel) rfl))
theorem zr_0_770 : zOK zPre 0 770 (s_k (nat_lit 48) (nat_lit 771)) := ok_iconst (n := 3) (md := zmd_0) zh_0 (by decide +kernel) rfl (by decide +kernel)
theorem zr_0_771 : zOK zPre 0 771 (s_iadd (nat_lit 772)) := ok_iadd (md := zmd_0) zh_0 (by decide +kernel) rfl
theorem zr_0_772 : zOK zPre 0 772 (s_sld (nat_lit 773)) := ok_sld (md := zmd_0) zh_0 (by decide +kernel) rfl
theorem zr_0_773 : zOK zPre 0 773 (s_ld_0 (nat_lit 1136) (nat_lit 774)) := zokE (zld_0 _ _) (ok_ld0 (t := 4) (i := 0) (zrow_aload_n (k := 0) (md := zmd_0) zh_0 (by decide +kernel) rfl rfl))
theorem zr_0_774 : zOK zPre 0 774 (s_ld_5 (nat_lit 45067) (nat_lit 776)) := zokE (zld_5 _ _) (ok_ld0 (t := 0) (i := 5) (zrow_iload (md := zmd_0) zh_0 (by decide +kernel) rfl))
theorem zr_0_776 : zOK zPre 0 776 (s_k (nat_lit 64) (nat_lit 777)) := ok_iconst (n := 4) (md := zmd_0) zh_0 (by decide +kernel) rfl (by decide +kernel)
theorem zr_0_777 : zOK zPre 0 777 (s_iadd (nat_lit 778)) := ok_iadd (md := zmd_0) zh_0 (by decide +kernel) rfl
theorem zr_0_778 : zOK zPre 0 778 (s_sld (nat_lit 779)) := ok_sld (md := zmd_0) zh_0 (by decide +kernel) rfl
theorem zr_0_779 : zOK zPre 0 779 (s_ld_3 (nat_lit 1136) (nat_lit 780)) := zokE (zld_3 _ _) (ok_ld0 (t := 4) (i := 3) (zrow_aload_n (k := 3) (md := zmd_0) zh_0 (by decide +kernel) rfl rfl))
theorem zr_0_780 : zOK zPre 0 780 (s_call (nat_lit 99) (nat_lit 93) (nat_lit 7) (nat_lit 6) (nat_lit 1) [] (nat_lit 783)) := ok_call (md := zmd_0) zh_0 zh_93 rfl (by decide) (by decide) (Or.inl rfl) zp_93 (zrow_callSX (mdc := zmd_93) (index := 180) (md := zmd_0) zh_0 (by decide +kernel) rfl rfl zc_93 zw_3_232 zw_3_233 zw_1_0 zd_93) trivial
theorem zr_0_783 : zOK zPre 0 783 (s_s1 (nat_lit 45067) (nat_lit 6) (nat_lit 785)) := ok_s10 (t := 0) (i := 6) (zrow_istore (md := zmd_0) zh_0 (by decide +kernel) rfl)
theorem zr_0_785 : zOK zPre 0 785 (s_ld_2 (nat_lit 1136) (nat_lit 786)) := zokE (zld_2 _ _) (ok_ld0 (t := 4) (i := 2) (zrow_aload_n (k := 2) (md := zmd_0) zh_0 (by decide +kernel) rfl rfl))
theorem zr_0_786 : zOK zPre 0 786 (s_ld_0 (nat_lit 1136) (nat_lit 787)) := zokE (zld_0 _ _) (ok_ld0 (t := 4) (i := 0) (zrow_aload_n (k := 0) (md := zmd_0) zh_0 (by decide +kernel) rfl rfl))
theorem zr_0_787 : zOK zPre 0 787 (s_ld_5 (nat_lit 45067) (nat_lit 789)) := zokE (zld_5 _ _) (ok_ld0 (t := 0) (i := 5) (zrow_iload (md := zmd_0) zh_0 (by decide +kernel) rfl))
theorem zr_0_789 : zOK zPre 0 789 (s_k (nat_lit 16) (nat_lit 790)) := ok_iconst (n := 1) (md := zmd_0) zh_0 (by decide +kernel) rfl (by decide +kernel)
theorem zr_0_790 : zOK zPre 0 790 (s_iadd (nat_lit 791)) := ok_iadd (md := zmd_0) zh_0 (by decide +kernel) rfl
theorem zr_0_791 : zOK zPre 0 791 (s_sld (nat_lit 792)) := ok_sld (md := zmd_0) zh_0 (by decide +kernel) rfl
theorem zr_0_792 : zOK zPre 0 792 (s_i2c (nat_lit 793)) := ok_i2c (md := zmd_0) zh_0 (by decide +kernel) rfl
theorem zr_0_793 : zOK zPre 0 793 (s_ld_0 (nat_lit 1136) (nat_lit 794)) := zokE (zld_0 _ _) (ok_ld0 (t := 4) (i := 0) (zrow_aload_n (k := 0) (md := zmd_0) zh_0 (by decide +kernel) rfl rfl))
theorem zr_0_794 : zOK zPre 0 794 (s_ld_5 (nat_lit 45067) (nat_lit 796)) := zokE (zld_5 _ _) (ok_ld0 (t := 0) (i := 5) (zrow_iload (md := zmd_0) zh_0 (by decide +kernel) rfl))
theorem zr_0_796 : zOK zPre 0 796 (s_k (nat_lit 32) (nat_lit 797)) := ok_iconst (n := 2) (md := zmd_0) zh_0 (by decide +kernel) rfl (by decide +kernel)
theorem zr_0_797 : zOK zPre 0 797 (s_iadd (nat_lit 798)) := ok_iadd (md := zmd_0) zh_0 (by decide +kernel) rfl
theorem zr_0_798 : zOK zPre 0 798 (s_sld (nat_lit 799)) := ok_sld (md := zmd_0) zh_0 (by decide +kernel) rfl
theorem zr_0_799 : zOK zPre 0 799 (s_ld_0 (nat_lit 1136) (nat_lit 800)) := zokE (zld_0 _ _) (ok_ld0 (t := 4) (i := 0) (zrow_aload_n (k := 0) (md := zmd_0) zh_0 (by decide +kernel) rfl rfl))
theorem zr_0_800 : zOK zPre 0 800 (s_ld_5 (nat_lit 45067) (nat_lit 802)) := zokE (zld_5 _ _) (ok_ld0 (t := 0) (i := 5) (zrow_iload (md := zmd_0) zh_0 (by decide +kernel) rfl))
theorem zr_0_802 : zOK zPre 0 802 (s_k (nat_lit 48) (nat_lit 803)) := ok_iconst (n := 3) (md := zmd_0) zh_0 (by decide +kernel) rfl (by decide +kernel)
theorem zr_0_803 : zOK zPre 0 803 (s_iadd (nat_lit 804)) := ok_iadd (md := zmd_0) zh_0 (by decide +kernel) rfl
theorem zr_0_804 : zOK zPre 0 804 (s_sld (nat_lit 805)) := ok_sld (md := zmd_0) zh_0 (by decide +kernel) rfl
theorem zr_0_805 : zOK zPre 0 805 (s_ld_0 (nat_lit 1136) (nat_lit 806)) := zokE (zld_0 _ _) (ok_ld0 (t := 4) (i := 0) (zrow_aload_n (k := 0) (md := zmd_0) zh_0 (by decide +kernel) rfl rfl))
theorem zr_0_806 : zOK zPre 0 806 (s_ld_5 (nat_lit 45067) (nat_lit 808)) := zokE (zld_5 _ _) (ok_ld0 (t := 0) (i := 5) (zrow_iload (md := zmd_0) zh_0 (by decide +kernel) rfl))
theorem zr_0_808 : zOK zPre 0 808 (s_k (nat_lit 64) (nat_lit 809)) := ok_iconst (n := 4) (md := zmd_0) zh_0 (by decide +kernel) rfl (by decide +kernel)
theorem zr_0_809 : zOK zPre 0 809 (s_iadd (nat_lit 810)) := ok_iadd (md := zmd_0) zh_0 (by decide +kernel) rfl
theorem zr_0_810 : zOK zPre 0 810 (s_sld (nat_lit 811)) := ok_sld (md := zmd_0) zh_0 (by decide +kernel) rfl
theorem zr_0_811 : zOK zPre 0 811 (s_call (nat_lit 10) (nat_lit 95) (nat_lit 8) (nat_lit 5) (nat_lit 1) [] (nat_lit 814)) := ok_call (md := zmd_0) zh_0 zh_95 rfl (by decide) (by decide) (Or.inr (by decide)) zp_95 (zrow_callV (mdc := zmd_95) (index := 183) (md := zmd_0) zh_0 (by decide +kernel) rfl rfl zc_95 rfl (by decide) zw_8_45 zw_8_46 zw_8_47 zw_1_10 zd_95) trivial
theorem zr_0_814 : zOK zPre 0 814 (s_s1 (nat_lit 45067) (nat_lit 7) (nat_lit 816)) := ok_s10 (t := 0) (i := 7) (zrow_istore (md := zmd_0) zh_0 (by decide +kernel) rfl)
theorem zr_0_816 : zOK zPre 0 816 (s_ld_2 (nat_lit 1136) (nat_lit 817)) := zokE (zld_2 _ _) (ok_ld0 (t := 4) (i := 2) (zrow_aload_n (k := 2) (md := zmd_0) zh_0 (by decide +kernel) rfl rfl))
theorem zr_0_817 : zOK zPre 0 817 (s_call (nat_lit 10) (nat_lit 39) (nat_lit 1) (nat_lit 1) (nat_lit 1) [] (nat_lit 820)) := ok_call (md := zmd_0) zh_0 zh_39 rfl (by decide) (by decide) (Or.inr (by decide)) zp_39 (zrow_callV (mdc := zmd_39) (index := 155) (md := zmd_0) zh_0 (by decide +kernel) rfl rfl zc_39 rfl (by decide) zw_7_66 zw_7_67 zw_7_68 zw_1_10 zd_39) trivial
theorem zr_0_820 : zOK zPre 0 820 (s_ld (nat_lit 45067) (nat_lit 6) (nat_lit 822)) := ok_ld0 (t := 0) (i := 6) (zrow_iload (md := zmd_0) zh_0 (by decide +kernel) rfl)
theorem zr_0_822 : zOK zPre 0 822 (s_ic (nat_lit 0) zu_eq (nat_lit 827) (nat_lit 825)) := ok_ic_eq (off := 5) (md := zmd_0) zh_0 (by decide +kernel) (by decide +kernel) rfl
theorem zr_0_827 : zOK zPre 0 827 (s_ld (nat_lit 45067) (nat_lit 6) (nat_lit 829)) := ok_ld0 (t := 0) (i := 6) (zrow_iload (md := zmd_0) zh_0 (by decide +kernel) rfl)
theorem zr_0_829 : zOK zPre 0 829 (s_if (nat_lit 1) zi_ne (nat_lit 844) (nat_lit 832)) := ok_if_ne (off := 15) (md := zmd_0) zh_0 (by decide +kernel) (by decide +kernel) rfl
theorem zr_0_832 : zOK zPre 0 832 (s_ld_3 (nat_lit 1136) (nat_lit 833)) := zokE (zld_3 _ _) (ok_ld0 (t := 4) (i := 3) (zrow_aload_n (k := 3) (md := zmd_0) zh_0 (by decide +kernel) rfl rfl))
theorem zr_0_833 : zOK zPre 0 833 (s_k (nat_lit 0) (nat_lit 834)) := ok_iconst (n := 0) (md := zmd_0) zh_0 (by decide +kernel) rfl (by decide +kernel)
theorem zr_0_834 : zOK zPre 0 834 (s_ald (nat_lit 21) (nat_lit 21) (nat_lit 835)) := ok_ald0 (by decide) (by decide) (by decide) (zrow_laload (md := zmd_0) zh_0 (by decide +kernel) rfl)
theorem zr_0_835 : zOK zPre 0 835 (s_ld (nat_lit 45067) (nat_lit 7) (nat_lit 837)) := ok_ld0 (t := 0) (i := 7) (zrow_iload (md := zmd_0) zh_0 (by decide +kernel) rfl)
theorem zr_0_837 : zOK zPre 0 837 (s_i2l (nat_lit 838)) := ok_i2l (md := zmd_0) zh_0 (by decide +kernel) rfl
theorem zr_0_838 : zOK zPre 0 838 (s_lcmp (nat_lit 839)) := ok_lcmp (md := zmd_0) zh_0 (by decide +kernel) rfl
theorem zr_0_839 : zOK zPre 0 839 (s_if (nat_lit 0) zi_eq (nat_lit 844) (nat_lit 842)) := ok_if_eq (off := 5) (md := zmd_0) zh_0 (by decide +kernel) (by decide +kernel) rfl
theorem zr_0_844 : zOK zPre 0 844 (s_go (nat_lit 2913)) := ok_go (off := 2069) (md := zmd_0) zh_0 (by decide +kernel) (by decide +kernel)
theorem zr_0_847 : zOK zPre 0 847 (s_ld_1 (nat_lit 1136) (nat_lit 848)) := zokE (zld_1 _ _) (ok_ld0 (t := 4) (i := 1) (zrow_aload_n (k := 1) (md := zmd_0) zh_0 (by decide +kernel) rfl rfl))
theorem zr_0_848 : zOK zPre 0 848 (s_ld_0 (nat_lit 1136) (nat_lit 849)) := zokE (zld_0 _ _) (ok_ld0 (t := 4) (i := 0) (zrow_aload_n (k := 0) (md := zmd_0) zh_0 (by decide +kernel) rfl rfl))
theorem zr_0_849 : zOK zPre 0 849 (s_ld_5 (nat_lit 45067) (nat_lit 851)) := zokE (zld_5 _ _) (ok_ld0 (t := 0) (i := 5) (zrow_iload (md := zmd_0) zh_0 (by decide +kernel) rfl))
theorem zr_0_851 : zOK zPre 0 851 (s_k (nat_lit 16) (nat_lit 852)) := ok_iconst (n := 1) (md := zmd_0) zh_0 (by decide +kernel) rfl (by decide +kernel)
theorem zr_0_852 : zOK zPre 0 852 (s_iadd (nat_lit 853)) := ok_iadd (md := zmd_0) zh_0 (by decide +kernel) rfl
theorem zr_0_853 : zOK zPre 0 853 (s_sld (nat_lit 854)) := ok_sld (md := zmd_0) zh_0 (by decide +kernel) rfl
theorem zr_0_854 : zOK zPre 0 854 (s_i2c (nat_lit 855)) := ok_i2c (md := zmd_0) zh_0 (by decide +kernel) rfl
theorem zr_0_855 : zOK zPre 0 855 (s_ld_0 (nat_lit 1136) (nat_lit 856)) := zokE (zld_0 _ _) (ok_ld0 (t := 4) (i := 0) (zrow_aload_n (k := 0) (md := zmd_0) zh_0 (by decide +kernel) rfl rfl))
theorem zr_0_856 : zOK zPre 0 856 (s_ld_5 (nat_lit 45067) (nat_lit 858)) := zokE (zld_5 _ _) (ok_ld0 (t := 0) (i := 5) (zrow_iload (md := zmd_0) zh_0 (by decide +kernel) rfl))
theorem zr_0_858 : zOK zPre 0 858 (s_k (nat_lit 32) (nat_lit 859)) := ok_iconst (n := 2) (md := zmd_0) zh_0 (by decide +kernel) rfl (by decide +kernel)
theorem zr_0_859 : zOK zPre 0 859 (s_iadd (nat_lit 860)) := ok_iadd (md := zmd_0) zh_0 (by decide +kernel) rfl
theorem zr_0_860 : zOK zPre 0 860 (s_sld (nat_lit 861)) := ok_sld (md := zmd_0) zh_0 (by decide +kernel) rfl
theorem zr_0_861 : zOK zPre 0 861 (s_ld_0 (nat_lit 1136) (nat_lit 862)) := zokE (zld_0 _ _) (ok_ld0 (t := 4) (i := 0) (zrow_aload_n (k := 0) (md := zmd_0) zh_0 (by decide +kernel) rfl rfl))
theorem zr_0_862 : zOK zPre 0 862 (s_ld_5 (nat_lit 45067) (nat_lit 864)) := zokE (zld_5 _ _) (ok_ld0 (t := 0) (i := 5) (zrow_iload (md := zmd_0) zh_0 (by decide +kernel) rfl))
theorem zr_0_864 : zOK zPre 0 864 (s_k (nat_lit 48) (nat_lit 865)) := ok_iconst (n := 3) (md := zmd_0) zh_0 (by decide +kernel) rfl (by decide +kernel)
theorem zr_0_865 : zOK zPre 0 865 (s_iadd (nat_lit 866)) := ok_iadd (md := zmd_0) zh_0 (by decide +kernel) rfl
theorem zr_0_866 : zOK zPre 0 866 (s_sld (nat_lit 867)) := ok_sld (md := zmd_0) zh_0 (by decide +kernel) rfl
theorem zr_0_867 : zOK zPre 0 867 (s_ld_3 (nat_lit 1136) (nat_lit 868)) := zokE (zld_3 _ _) (ok_ld0 (t := 4) (i := 3) (zrow_aload_n (k := 3) (md := zmd_0) zh_0 (by decide +kernel) rfl rfl))
theorem zr_0_868 : zOK zPre 0 868 (s_call (nat_lit 99) (nat_lit 116) (nat_lit 6) (nat_lit 5) (nat_lit 1) [] (nat_lit 871)) := ok_call (md := zmd_0) zh_0 zh_116 rfl (by decide) (by decide) (Or.inl rfl) zp_116 (zrow_callSX (mdc := zmd_116) (index := 184) (md := zmd_0) zh_0 (by decide +kernel) rfl rfl zc_116 zw_4_85 zw_4_86 zw_1_0 zd_116) trivial
theorem zr_0_871 : zOK zPre 0 871 (s_s1 (nat_lit 45067) (nat_lit 6) (nat_lit 873)) := ok_s10 (t := 0) (i := 6) (zrow_istore (md := zmd_0) zh_0 (by decide +kernel) rfl)
theorem zr_0_873 : zOK zPre 0 873 (s_ld_2 (nat_lit 1136) (nat_lit 874)) := zokE (zld_2 _ _) (ok_ld0 (t := 4) (i := 2) (zrow_aload_n (k := 2) (md := zmd_0) zh_0 (by decide +kernel) rfl rfl))
theorem zr_0_874 : zOK zPre 0 874 (s_ld_0 (nat_lit 1136) (nat_lit 875)) := zokE (zld_0 _ _) (ok_ld0 (t := 4) (i := 0) (zrow_aload_n (k := 0) (md := zmd_0) zh_0 (by decide +kernel) rfl rfl))
theorem zr_0_875 : zOK zPre 0 875 (s_ld_5 (nat_lit 45067) (nat_lit 877)) := zokE (zld_5 _ _) (ok_ld0 (t := 0) (i := 5) (zrow_iload (md := zmd_0) zh_0 (by decide +kernel) rfl))
theorem zr_0_877 : zOK zPre 0 877 (s_k (nat_lit 16) (nat_lit 878)) := ok_iconst (n := 1) (md := zmd_0) zh_0 (by decide +kernel) rfl (by decide +kernel)
theorem zr_0_878 : zOK zPre 0 878 (s_iadd (nat_lit 879)) := ok_iadd (md := zmd_0) zh_0 (by decide +kernel) rfl
theorem zr_0_879 : zOK zPre 0 879 (s_sld (nat_lit 880)) := ok_sld (md := zmd_0) zh_0 (by decide +kernel) rfl
theorem zr_0_880 : zOK zPre 0 880 (s_i2c (nat_lit 881)) := ok_i2c (md := zmd_0) zh_0 (by decide +kernel) rfl
theorem zr_0_881 : zOK zPre 0 881 (s_ld_0 (nat_lit 1136) (nat_lit 882)) := zokE (zld_0 _ _) (ok_ld0 (t := 4) (i := 0) (zrow_aload_n (k := 0) (md := zmd_0) zh_0 (by decide +kernel) rfl rfl))
theorem zr_0_882 : zOK zPre 0 882 (s_ld_5 (nat_lit 45067) (nat_lit 884)) := zokE (zld_5 _ _) (ok_ld0 (t := 0) (i := 5) (zrow_iload (md := zmd_0) zh_0 (by decide +kernel) rfl))
theorem zr_0_884 : zOK zPre 0 884 (s_k (nat_lit 32) (nat_lit 885)) := ok_iconst (n := 2) (md := zmd_0) zh_0 (by decide +kernel) rfl (by decide +kernel)
theorem zr_0_885 : zOK zPre 0 885 (s_iadd (nat_lit 886)) := ok_iadd (md := zmd_0) zh_0 (by decide +kernel) rfl
theorem zr_0_886 : zOK zPre 0 886 (s_sld (nat_lit 887)) := ok_sld (md := zmd_0) zh_0 (by decide +kernel) rfl
theorem zr_0_887 : zOK zPre 0 887 (s_ld_0 (nat_lit 1136) (nat_lit 888)) := zokE (zld_0 _ _) (ok_ld0 (t := 4) (i := 0) (zrow_aload_n (k := 0) (md := zmd_0) zh_0 (by decide +kernel) rfl rfl))
theorem zr_0_888 : zOK zPre 0 888 (s_ld_5 (nat_lit 45067) (nat_lit 890)) := zokE (zld_5 _ _) (ok_ld0 (t := 0) (i := 5) (zrow_iload (md := zmd_0) zh_0 (by decide +kernel) rfl))
theorem zr_0_890 : zOK zPre 0 890 (s_k (nat_lit 48) (nat_lit 891)) := ok_iconst (n := 3) (md := zmd_0) zh_0 (by decide +kernel) rfl (by decide +kernel)
theorem zr_0_891 : zOK zPre 0 891 (s_iadd (nat_lit 892)) := ok_iadd (md := zmd_0) zh_0 (by decide +kernel) rfl
theorem zr_0_892 : zOK zPre 0 892 (s_sld (nat_lit 893)) := ok_sld (md := zmd_0) zh_0 (by decide +kernel) rfl
theorem zr_0_893 : zOK zPre 0 893 (s_call (nat_lit 10) (nat_lit 119) (nat_lit 6) (nat_lit 4) (nat_lit 1) [] (nat_lit 896)) := ok_call (md := zmd_0) zh_0 zh_119 rfl (by decide) (by decide) (Or.inr (by decide)) zp_119 (zrow_callV (mdc := zmd_119) (index := 187) (md := zmd_0) zh_0 (by decide +kernel) rfl rfl zc_119 rfl (by decide) zw_8_109 zw_8_110 zw_8_111 zw_1_10 zd_119) trivial
theorem zr_0_896 : zOK zPre 0 896 (s_s1 (nat_lit 45067) (nat_lit 7) (nat_lit 898)) := ok_s10 (t := 0) (i := 7) (zrow_istore (md := zmd_0) zh_0 (by decide +kernel) rfl)
theorem zr_0_898 : zOK zPre 0 898 (s_ld_2 (nat_lit 1136) (nat_lit 899)) := zokE (zld_2 _ _) (ok_ld0 (t := 4) (i := 2) (zrow_aload_n (k := 2) (md := zmd_0) zh_0 (by decide +kernel) rfl rfl))
theorem zr_0_899 : zOK zPre 0 899 (s_call (nat_lit 10) (nat_lit 39) (nat_lit 1) (nat_lit 1) (nat_lit 1) [] (nat_lit 902)) := ok_call (md := zmd_0) zh_0 zh_39 rfl (by decide) (by decide) (Or.inr (by decide)) zp_39 (zrow_callV (mdc := zmd_39) (index := 155) (md := zmd_0) zh_0 (by decide +kernel) rfl rfl zc_39 rfl (by decide) zw_7_66 zw_7_67 zw_7_68 zw_1_10 zd_39) trivial
theorem zr_0_902 : zOK zPre 0 902 (s_ld (nat_lit 45067) (nat_lit 6) (nat_lit 904)) := ok_ld0 (t := 0) (i := 6) (zrow_iload (md := zmd_0) zh_0 (by decide +kernel) rfl)
theorem zr_0_904 : zOK zPre 0 904 (s_ic (nat_lit 0) zu_eq (nat_lit 909) (nat_lit 907)) := ok_ic_eq (off := 5) (md := zmd_0) zh_0 (by decide +kernel) (by decide +kernel) rfl
theorem zr_0_909 : zOK zPre 0 909 (s_ld (nat_lit 45067) (nat_lit 6) (nat_lit 911)) := ok_ld0 (t := 0) (i := 6) (zrow_iload (md := zmd_0) zh_0 (by decide +kernel) rfl)
theorem zr_0_911 : zOK zPre 0 911 (s_if (nat_lit 1) zi_ne (nat_lit 926) (nat_lit 914)) := ok_if_ne (off := 15) (md := zmd_0) zh_0 (by decide +kernel) (by decide +kernel) rfl
theorem zr_0_914 : zOK zPre 0 914 (s_ld_3 (nat_lit 1136) (nat_lit 915)) := zokE (zld_3 _ _) (ok_ld0 (t := 4) (i := 3) (zrow_aload_n (k := 3) (md := zmd_0) zh_0 (by decide +kernel) rfl rfl))
theorem zr_0_915 : zOK zPre 0 915 (s_k (nat_lit 0) (nat_lit 916)) := ok_iconst (n := 0) (md := zmd_0) zh_0 (by decide +kernel) rfl (by decide +kernel)
theorem zr_0_916 : zOK zPre 0 916 (s_ald (nat_lit 21) (nat_lit 21) (nat_lit 917)) := ok_ald0 (by decide) (by decide) (by decide) (zrow_laload (md := zmd_0) zh_0 (by decide +kernel) rfl)
theorem zr_0_917 : zOK zPre 0 917 (s_ld (nat_lit 45067) (nat_lit 7) (nat_lit 919)) := ok_ld0 (t := 0) (i := 7) (zrow_iload (md := zmd_0) zh_0 (by decide +kernel) rfl)
theorem zr_0_919 : zOK zPre 0 919 (s_i2l (nat_lit 920)) := ok_i2l (md := zmd_0) zh_0 (by decide +kernel) rfl
theorem zr_0_920 : zOK zPre 0 920 (s_lcmp (nat_lit 921)) := ok_lcmp (md := zmd_0) zh_0 (by decide +kernel) rfl
theorem zr_0_921 : zOK zPre 0 921 (s_if (nat_lit 0) zi_eq (nat_lit 926) (nat_lit 924)) := ok_if_eq (off := 5) (md := zmd_0) zh_0 (by decide +kernel) (by decide +kernel) rfl
theorem zr_0_926 : zOK zPre 0 926 (s_go (nat_lit 2913)) := ok_go (off := 1987) (md := zmd_0) zh_0 (by decide +kernel) (by decide +kernel)
theorem zr_0_929 : zOK zPre 0 929 (s_ld_1 (nat_lit 1136) (nat_lit 930)) := zokE (zld_1 _ _) (ok_ld0 (t := 4) (i := 1) (zrow_aload_n (k := 1) (md := zmd_0) zh_0 (by decide +kernel) rfl rfl))
theorem zr_0_930 : zOK zPre 0 930 (s_ld_0 (nat_lit 1136) (nat_lit 931)) := zokE (zld_0 _ _) (ok_ld0 (t := 4) (i := 0) (zrow_aload_n (k := 0) (md := zmd_0) zh_0 (by decide +kernel) rfl rfl))
theorem zr_0_931 : zOK zPre 0 931 (s_ld_5 (nat_lit 45067) (nat_lit 933)) := zokE (zld_5 _ _) (ok_ld0 (t := 0) (i := 5) (zrow_iload (md := zmd_0) zh_0 (by decide +kernel) rfl))
theorem zr_0_933 : zOK zPre 0 933 (s_k (nat_lit 16) (nat_lit 934)) := ok_iconst (n := 1) (md := zmd_0) zh_0 (by decide +kernel) rfl (by decide +kernel)
theorem zr_0_934 : zOK zPre 0 934 (s_iadd (nat_lit 935)) := ok_iadd (md := zmd_0) zh_0 (by decide +kernel) rfl
theorem zr_0_935 : zOK zPre 0 935 (s_sld (nat_lit 936)) := ok_sld (md := zmd_0) zh_0 (by decide +kernel) rfl
theorem zr_0_936 : zOK zPre 0 936 (s_ld_0 (nat_lit 1136) (nat_lit 937)) := zokE (zld_0 _ _) (ok_ld0 (t := 4) (i := 0) (zrow_aload_n (k := 0) (md := zmd_0) zh_0 (by decide +kernel) rfl rfl))
theorem zr_0_937 : zOK zPre 0 937 (s_ld_5 (nat_lit 45067) (nat_lit 939)) := zokE (zld_5 _ _) (ok_ld0 (t := 0) (i := 5) (zrow_iload (md := zmd_0) zh_0 (by decide +kernel) rfl))
theorem zr_0_939 : zOK zPre 0 939 (s_k (nat_lit 32) (nat_lit 940)) := ok_iconst (n := 2) (md := zmd_0) zh_0 (by decide +kernel) rfl (by decide +kernel)
theorem zr_0_940 : zOK zPre 0 940 (s_iadd (nat_lit 941)) := ok_iadd (md := zmd_0) zh_0 (by decide +kernel) rfl
theorem zr_0_941 : zOK zPre 0 941 (s_sld (nat_lit 942)) := ok_sld (md := zmd_0) zh_0 (by decide +kernel) rfl
theorem zr_0_942 : zOK zPre 0 942 (s_ld_0 (nat_lit 1136) (nat_lit 943)) := zokE (zld_0 _ _) (ok_ld0 (t := 4) (i := 0) (zrow_aload_n (k := 0) (md := zmd_0) zh_0 (by decide +kernel) rfl rfl))
theorem zr_0_943 : zOK zPre 0 943 (s_ld_5 (nat_lit 45067) (nat_lit 945)) := zokE (zld_5 _ _) (ok_ld0 (t := 0) (i := 5) (zrow_iload (md := zmd_0) zh_0 (by decide +kernel) rfl))
theorem zr_0_945 : zOK zPre 0 945 (s_k (nat_lit 48) (nat_lit 946)) := ok_iconst (n := 3) (md := zmd_0) zh_0 (by decide +kernel) rfl (by decide +kernel)
theorem zr_0_946 : zOK zPre 0 946 (s_iadd (nat_lit 947)) := ok_iadd (md := zmd_0) zh_0 (by decide +kernel) rfl
theorem zr_0_947 : zOK zPre 0 947 (s_sld (nat_lit 948)) := ok_sld (md := zmd_0) zh_0 (by decide +kernel) rfl
theorem zr_0_948 : zOK zPre 0 948 (s_ld_3 (nat_lit 1136) (nat_lit 949)) := zokE (zld_3 _ _) (ok_ld0 (t := 4) (i := 3) (zrow_aload_n (k := 3) (md := zmd_0) zh_0 (by decide +kernel) rfl rfl))
theorem zr_0_949 : zOK zPre 0 949 (s_call (nat_lit 99) (nat_lit 125) (nat_lit 6) (nat_lit 5) (nat_lit 1) [] (nat_lit 952)) := ok_call (md := zmd_0) zh_0 zh_125 rfl (by decide) (by decide) (Or.inl rfl) zp_125 (zrow_callSX (mdc := zmd_125) (index := 188) (md := zmd_0) zh_0 (by decide +kernel) rfl rfl zc_125 zw_4_118 zw_4_119 zw_1_0 zd_125) trivial
theorem zr_0_952 : zOK zPre 0 952 (s_s1 (nat_lit 45067) (nat_lit 6) (nat_lit 954)) := ok_s10 (t := 0) (i := 6) (zrow_istore (md := zmd_0) zh_0 (by decide +kernel) rfl)
theorem zr_0_954 : zOK zPre 0 954 (s_ld_2 (nat_lit 1136) (nat_lit 955)) := zokE (zld_2 _ _) (ok_ld0 (t := 4) (i := 2) (zrow_aload_n (k := 2) (md := zmd_0) zh_0 (by decide +kernel) rfl rfl))
theorem zr_0_955 : zOK zPre 0 955 (s_ld_0 (nat_lit 1136) (nat_lit 956)) := zokE (zld_0 _ _) (ok_ld0 (t := 4) (i := 0) (zrow_aload_n (k := 0) (md := zmd_0) zh_0 (by decide +kernel) rfl rfl))
theorem zr_0_956 : zOK zPre 0 956 (s_ld_5 (nat_lit 45067) (nat_lit 958)) := zokE (zld_5 _ _) (ok_ld0 (t := 0) (i := 5) (zrow_iload (md := zmd_0) zh_0 (by decide +kernel) rfl))
theorem zr_0_958 : zOK zPre 0 958 (s_k (nat_lit 16) (nat_lit 959)) := ok_iconst (n := 1) (md := zmd_0) zh_0 (by decide +kernel) rfl (by decide +kernel)
theorem zr_0_959 : zOK zPre 0 959 (s_iadd (nat_lit 960)) := ok_iadd (md := zmd_0) zh_0 (by decide +kernel) rfl
theorem zr_0_960 : zOK zPre 0 960 (s_sld (nat_lit 961)) := ok_sld (md := zmd_0) zh_0 (by decide +kernel) rfl
theorem zr_0_961 : zOK zPre 0 961 (s_ld_0 (nat_lit 1136) (nat_lit 962)) := zokE (zld_0 _ _) (ok_ld0 (t := 4) (i := 0) (zrow_aload_n (k := 0) (md := zmd_0) zh_0 (by decide +kernel) rfl rfl))
theorem zr_0_962 : zOK zPre 0 962 (s_ld_5 (nat_lit 45067) (nat_lit 964)) := zokE (zld_5 _ _) (ok_ld0 (t := 0) (i := 5) (zrow_iload (md := zmd_0) zh_0 (by decide +kernel) rfl))
theorem zr_0_964 : zOK zPre 0 964 (s_k (nat_lit 32) (nat_lit 965)) := ok_iconst (n := 2) (md := zmd_0) zh_0 (by decide +kernel) rfl (by decide +kernel)
theorem zr_0_965 : zOK zPre 0 965 (s_iadd (nat_lit 966)) := ok_iadd (md := zmd_0) zh_0 (by decide +kernel) rfl
theorem zr_0_966 : zOK zPre 0 966 (s_sld (nat_lit 967)) := ok_sld (md := zmd_0) zh_0 (by decide +kernel) rfl
theorem zr_0_967 : zOK zPre 0 967 (s_ld_0 (nat_lit 1136) (nat_lit 968)) := zokE (zld_0 _ _) (ok_ld0 (t := 4) (i := 0) (zrow_aload_n (k := 0) (md := zmd_0) zh_0 (by decide +kernel) rfl rfl))
theorem zr_0_968 : zOK zPre 0 968 (s_ld_5 (nat_lit 45067) (nat_lit 970)) := zokE (zld_5 _ _) (ok_ld0 (t := 0) (i := 5) (zrow_iload (md := zmd_0) zh_0 (by decide +kernel) rfl))
theorem zr_0_970 : zOK zPre 0 970 (s_k (nat_lit 48) (nat_lit 971)) := ok_iconst (n := 3) (md := zmd_0) zh_0 (by decide +kernel) rfl (by decide +kernel)
theorem zr_0_971 : zOK zPre 0 971 (s_iadd (nat_lit 972)) := ok_iadd (md := zmd_0) zh_0 (by decide +kernel) rfl
theorem zr_0_972 : zOK zPre 0 972 (s_sld (nat_lit 973)) := ok_sld (md := zmd_0) zh_0 (by decide +kernel) rfl
theorem zr_0_973 : zOK zPre 0 973 (s_call (nat_lit 10) (nat_lit 129) (nat_lit 5) (nat_lit 4) (nat_lit 1) [] (nat_lit 976)) := ok_call (md := zmd_0) zh_0 zh_129 rfl (by decide) (by decide) (Or.inr (by decide)) zp_129 (zrow_callV (mdc := zmd_129) (index := 191) (md := zmd_0) zh_0 (by decide +kernel) rfl rfl zc_129 rfl (by decide) zw_8_122 zw_8_123 zw_8_124 zw_1_10 zd_129) trivial
theorem zr_0_976 : zOK zPre 0 976 (s_s1 (nat_lit 45067) (nat_lit 7) (nat_lit 978)) := ok_s10 (t := 0) (i := 7) (zrow_istore (md := zmd_0) zh_0 (by decide +kernel) rfl)
theorem zr_0_978 : zOK zPre 0 978 (s_ld_2 (nat_lit 1136) (nat_lit 979)) := zokE (zld_2 _ _) (ok_ld0 (t := 4) (i := 2) (zrow_aload_n (k := 2) (md := zmd_0) zh_0 (by decide +kernel) rfl rfl))
theorem zr_0_979 : zOK zPre 0 979 (s_call (nat_lit 10) (nat_lit 39) (nat_lit 1) (nat_lit 1) (nat_lit 1) [] (nat_lit 982)) := ok_call (md := zmd_0) zh_0 zh_39 rfl (by decide) (by decide) (Or.inr (by decide)) zp_39 (zrow_callV (mdc := zmd_39) (index := 155) (md := zmd_0) zh_0 (by decide +kernel) rfl rfl zc_39 rfl (by decide) zw_7_66 zw_7_67 zw_7_68 zw_1_10 zd_39) trivial
theorem zr_0_982 : zOK zPre 0 982 (s_ld (nat_lit 45067) (nat_lit 6) (nat_lit 984)) := ok_ld0 (t := 0) (i := 6) (zrow_iload (md := zmd_0) zh_0 (by decide +kernel) rfl)
theorem zr_0_984 : zOK zPre 0 984 (s_ic (nat_lit 0) zu_eq (nat_lit 989) (nat_lit 987)) := ok_ic_eq (off := 5) (md := zmd_0) zh_0 (by decide +kernel) (by decide +kernel) rfl
theorem zr_0_989 : zOK zPre 0 989 (s_ld (nat_lit 45067) (nat_lit 6) (nat_lit 991)) := ok_ld0 (t := 0) (i := 6) (zrow_iload (md := zmd_0) zh_0 (by decide +kernel) rfl)
theorem zr_0_991 : zOK zPre 0 991 (s_if (nat_lit 1) zi_ne (nat_lit 1006) (nat_lit 994)) := ok_if_ne (off := 15) (md := zmd_0) zh_0 (by decide +kernel) (by decide +kernel) rfl
theorem zr_0_994 : zOK zPre 0 994 (s_ld_3 (nat_lit 1136) (nat_lit 995)) := zokE (zld_3 _ _) (ok_ld0 (t := 4) (i := 3) (zrow_aload_n (k := 3) (md := zmd_0) zh_0 (by decide +kernel) rfl rfl))
theorem zr_0_995 : zOK zPre 0 995 (s_k (nat_lit 0) (nat_lit 996)) := ok_iconst (n := 0) (md := zmd_0) zh_0 (by decide +kernel) rfl (by decide +kernel)
theorem zr_0_996 : zOK zPre 0 996 (s_ald (nat_lit 21) (nat_lit 21) (nat_lit 997)) := ok_ald0 (by decide) (by decide) (by decide) (zrow_laload (md := zmd_0) zh_0 (by decide +kernel) rfl)
theorem zr_0_997 : zOK zPre 0 997 (s_ld (nat_lit 45067) (nat_lit 7) (nat_lit 999)) := ok_ld0 (t := 0) (i := 7) (zrow_iload (md := zmd_0) zh_0 (by decide +kernel) rfl)
theorem zr_0_999 : zOK zPre 0 999 (s_i2l (nat_lit 1000)) := ok_i2l (md := zmd_0) zh_0 (by decide +kernel) rfl
theorem zr_0_1000 : zOK zPre 0 1000 (s_lcmp (nat_lit 1001)) := ok_lcmp (md := zmd_0) zh_0 (by decide +kernel) rfl
theorem zr_0_1001 : zOK zPre 0 1001 (s_if (nat_lit 0) zi_eq (nat_lit 1006) (nat_lit 1004)) := ok_if_eq (off := 5) (md := zmd_0) zh_0 (by decide +kernel) (by decide +kernel) rfl
theorem zr_0_1006 : zOK zPre 0 1006 (s_go (nat_lit 2913)) := ok_go (off := 1907) (md := zmd_0) zh_0 (by decide +kernel) (by decide +kernel)
theorem zr_0_1009 : zOK zPre 0 1009 (s_ld_1 (nat_lit 1136) (nat_lit 1010)) := zokE (zld_1 _ _) (ok_ld0 (t := 4) (i := 1) (zrow_aload_n (k := 1) (md := zmd_0) zh_0 (by decide +kernel) rfl rfl))
theorem zr_0_1010 : zOK zPre 0 1010 (s_ld_0 (nat_lit 1136) (nat_lit 1011)) := zokE (zld_0 _ _) (ok_ld0 (t := 4) (i := 0) (zrow_aload_n (k := 0) (md := zmd_0) zh_0 (by decide +kernel) rfl rfl))
theorem zr_0_1011 : zOK zPre 0 1011 (s_ld_5 (nat_lit 45067) (nat_lit 1013)) := zokE (zld_5 _ _) (ok_ld0 (t := 0) (i := 5) (zrow_iload (md := zmd_0) zh_0 (by decide +kernel) rfl))
theorem zr_0_1013 : zOK zPre 0 1013 (s_k (nat_lit 16) (nat_lit 1014)) := ok_iconst (n := 1) (md := zmd_0) zh_0 (by decide +kernel) rfl (by decide +kernel)
theorem zr_0_1014 : zOK zPre 0 1014 (s_iadd (nat_lit 1015)) := ok_iadd (md := zmd_0) zh_0 (by decide +kernel) rfl
theorem zr_0_1015 : zOK zPre 0 1015 (s_sld (nat_lit 1016)) := ok_sld (md := zmd_0) zh_0 (by decide +kernel) rfl
theorem zr_0_1016 : zOK zPre 0 1016 (s_ld_0 (nat_lit 1136) (nat_lit 1017)) := zokE (zld_0 _ _) (ok_ld0 (t := 4) (i := 0) (zrow_aload_n (k := 0) (md := zmd_0) zh_0 (by decide +kernel) rfl rfl))
theorem zr_0_1017 : zOK zPre 0 1017 (s_ld_5 (nat_lit 45067) (nat_lit 1019)) := zokE (zld_5 _ _) (ok_ld0 (t := 0) (i := 5) (zrow_iload (md := zmd_0) zh_0 (by decide +kernel) rfl))
theorem zr_0_1019 : zOK zPre 0 1019 (s_k (nat_lit 32) (nat_lit 1020)) := ok_iconst (n := 2) (md := zmd_0) zh_0 (by decide +kernel) rfl (by decide +kernel)
theorem zr_0_1020 : zOK zPre 0 1020 (s_iadd (nat_lit 1021)) := ok_iadd (md := zmd_0) zh_0 (by decide +kernel) rfl
theorem zr_0_1021 : zOK zPre 0 1021 (s_sld (nat_lit 1022)) := ok_sld (md := zmd_0) zh_0 (by decide +kernel) rfl
theorem zr_0_1022 : zOK zPre 0 1022 (s_ld_3 (nat_lit 1136) (nat_lit 1023)) := zokE (zld_3 _ _) (ok_ld0 (t := 4) (i := 3) (zrow_aload_n (k := 3) (md := zmd_0) zh_0 (by decide +kernel) rfl rfl))
theorem zr_0_1023 : zOK zPre 0 1023 (s_call (nat_lit 99) (nat_lit 131) (nat_lit 5) (nat_lit 4) (nat_lit 1) [] (nat_lit 1026)) := ok_call (md := zmd_0) zh_0 zh_131 rfl (by decide) (by decide) (Or.inl rfl) zp_131 (zrow_callSX (mdc := zmd_131) (index := 192) (md := zmd_0) zh_0 (by decide +kernel) rfl rfl zc_131 zw_4_134 zw_4_135 zw_1_0 zd_131) trivial
theorem zr_0_1026 : zOK zPre 0 1026 (s_s1 (nat_lit 45067) (nat_lit 6) (nat_lit 1028)) := ok_s10 (t := 0) (i := 6) (zrow_istore (md := zmd_0) zh_0 (by decide +kernel) rfl)
theorem zr_0_1028 : zOK zPre 0 1028 (s_ld_2 (nat_lit 1136) (nat_lit 1029)) := zokE (zld_2 _ _) (ok_ld0 (t := 4) (i := 2) (zrow_aload_n (k := 2) (md := zmd_0) zh_0 (by decide +kernel) rfl rfl))
theorem zr_0_1029 : zOK zPre 0 1029 (s_ld_0 (nat_lit 1136) (nat_lit 1030)) := zokE (zld_0 _ _) (ok_ld0 (t := 4) (i := 0) (zrow_aload_n (k := 0) (md := zmd_0) zh_0 (by decide +kernel) rfl rfl))
theorem zr_0_1030 : zOK zPre 0 1030 (s_ld_5 (nat_lit 45067) (nat_lit 1032)) := zokE (zld_5 _ _) (ok_ld0 (t := 0) (i := 5) (zrow_iload (md := zmd_0) zh_0 (by decide +kernel) rfl))
theorem zr_0_1032 : zOK zPre 0 1032 (s_k (nat_lit 16) (nat_lit 1033)) := ok_iconst (n := 1) (md := zmd_0) zh_0 (by decide +kernel) rfl (by decide +kernel)
theorem zr_0_1033 : zOK zPre 0 1033 (s_iadd (nat_lit 1034)) := ok_iadd (md := zmd_0) zh_0 (by decide +kernel) rfl
theorem zr_0_1034 : zOK zPre 0 1034 (s_sld (nat_lit 1035)) := ok_sld (md := zmd_0) zh_0 (by decide +kernel) rfl
theorem zr_0_1035 : zOK zPre 0 1035 (s_ld_0 (nat_lit 1136) (nat_lit 1036)) := zokE (zld_0 _ _) (ok_ld0 (t := 4) (i := 0) (zrow_aload_n (k := 0) (md := zmd_0) zh_0 (by decide +kernel) rfl rfl))
theorem zr_0_1036 : zOK zPre 0 1036 (s_ld_5 (nat_lit 45067) (nat_lit 1038)) := zokE (zld_5 _ _) (ok_ld0 (t := 0) (i := 5) (zrow_iload (md := zmd_0) zh_0 (by decide +kernel) rfl))
theorem zr_0_1038 : zOK zPre 0 1038 (s_k (nat_lit 32) (nat_lit 1039)) := ok_iconst (n := 2) (md := zmd_0) zh_0 (by decide +kernel) rfl (by decide +kernel)
theorem zr_0_1039 : zOK zPre 0 1039 (s_iadd (nat_lit 1040)) := ok_iadd (md := zmd_0) zh_0 (by decide +kernel) rfl
theorem zr_0_1040 : zOK zPre 0 1040 (s_sld (nat_lit 1041)) := ok_sld (md := zmd_0) zh_0 (by decide +kernel) rfl
theorem zr_0_1041 : zOK zPre 0 1041 (s_call (nat_lit 10) (nat_lit 133) (nat_lit 3) (nat_lit 3) (nat_lit 1) [] (nat_lit 1044)) := ok_call (md := zmd_0) zh_0 zh_133 rfl (by decide) (by decide) (Or.inr (by decide)) zp_133 (zrow_callV (mdc := zmd_133) (index := 194) (md := zmd_0) zh_0 (by decide +kernel) rfl rfl zc_133 rfl (by decide) zw_8_127 zw_8_128 zw_8_129 zw_1_10 zd_133) trivial
theorem zr_0_1044 : zOK zPre 0 1044 (s_s1 (nat_lit 45067) (nat_lit 7) (nat_lit 1046)) := ok_s10 (t := 0) (i := 7) (zrow_istore (md := zmd_0) zh_0 (by decide +kernel) rfl)
theorem zr_0_1046 : zOK zPre 0 1046 (s_ld_2 (nat_lit 1136) (nat_lit 1047)) := zokE (zld_2 _ _) (ok_ld0 (t := 4) (i := 2) (zrow_aload_n (k := 2) (md := zmd_0) zh_0 (by decide +kernel) rfl rfl))
theorem zr_0_1047 : zOK zPre 0 1047 (s_call (nat_lit 10) (nat_lit 39) (nat_lit 1) (nat_lit 1) (nat_lit 1) [] (nat_lit 1050)) := ok_call (md := zmd_0) zh_0 zh_39 rfl (by decide) (by decide) (Or.inr (by decide)) zp_39 (zrow_callV (mdc := zmd_39) (index := 155) (md := zmd_0) zh_0 (by decide +kernel) rfl rfl zc_39 rfl (by decide) zw_7_66 zw_7_67 zw_7_68 zw_1_10 zd_39) trivial
theorem zr_0_1050 : zOK zPre 0 1050 (s_ld (nat_lit 45067) (nat_lit 6) (nat_lit 1052)) := ok_ld0 (t := 0) (i := 6) (zrow_iload (md := zmd_0) zh_0 (by decide +kernel) rfl)
theorem zr_0_1052 : zOK zPre 0 1052 (s_ic (nat_lit 0) zu_eq (nat_lit 1057) (nat_lit 1055)) := ok_ic_eq (off := 5) (md := zmd_0) zh_0 (by decide +kernel) (by decide +kernel) rfl
theorem zr_0_1057 : zOK zPre 0 1057 (s_ld (nat_lit 45067) (nat_lit 6) (nat_lit 1059)) := ok_ld0 (t := 0) (i := 6) (zrow_iload (md := zmd_0) zh_0 (by decide +kernel) rfl)
theorem zr_0_1059 : zOK zPre 0 1059 (s_if (nat_lit 1) zi_ne (nat_lit 1081) (nat_lit 1062)) := ok_if_ne (off := 22) (md := zmd_0) zh_0 (by decide +kernel) (by decide +kernel) rfl
theorem zr_0_1062 : zOK zPre 0 1062 (s_ld_3 (nat_lit 1136) (nat_lit 1063)) := zokE (zld_3 _ _) (ok_ld0 (t := 4) (i := 3) (zrow_aload_n (k := 3) (md := zmd_0) zh_0 (by decide +kernel) rfl rfl))
theorem zr_0_1063 : zOK zPre 0 1063 (s_k (nat_lit 0) (nat_lit 1064)) := ok_iconst (n := 0) (md := zmd_0) zh_0 (by decide +kernel) rfl (by decide +kernel)
theorem zr_0_1064 : zOK zPre 0 1064 (s_ald (nat_lit 21) (nat_lit 21) (nat_lit 1065)) := ok_ald0 (by decide) (by decide) (by decide) (zrow_laload (md := zmd_0) zh_0 (by decide +kernel) rfl)
theorem zr_0_1065 : zOK zPre 0 1065 (s_ld (nat_lit 45067) (nat_lit 7) (nat_lit 1067)) := ok_ld0 (t := 0) (i := 7) (zrow_iload (md := zmd_0) zh_0 (by decide +kernel) rfl)
end RowsOK
