section Longs
variable {Pre : zgl → zctx → Prop} {m pc nx : Nat} {md : zMD}
def zbl (x : Int64) : Nat := (x.toInt + 9223372036854775808).toNat
theorem zbl_toInt (i : Int64) : i.toInt = (zbl i : Int) - 9223372036854775808 := by
  have := i.le_toInt; have := i.toInt_lt
  unfold zbl; omega
theorem zl_toIntP {n : Nat} (h : n < 9223372036854775808) : (lN n).toInt = n := lg_ofNat_toInt (by omega)
theorem zbl_lN {n : Nat} (h : n < 18446744073709551616) : zbl (lN n) = (n + 9223372036854775808) % 18446744073709551616 := by
  unfold zbl
  by_cases q : n < 9223372036854775808
  · rw [zl_toIntP q]; omega
  · rw [zl_neT (by omega) h]; omega
theorem zbl_i (i : Int32) : zbl i.toInt64 = zbi i + 9223372034707292160 := by
  unfold zbl
  have := zbi_toInt i
  rw [Int32.toInt_toInt64, this]; omega
theorem zbl_gt (x y : Int64) : x > y ↔ zbl y < zbl x := by
  have h1 := zbl_toInt x; have h2 := zbl_toInt y
  show y < x ↔ _
  rw [Int64.lt_iff_toInt_lt]; omega
theorem zbl_eq (x y : Int64) : x = y ↔ zbl x = zbl y := by
  have h1 := zbl_toInt x; have h2 := zbl_toInt y
  rw [← Int64.toInt_inj]; omega
theorem zlgc (x y : Int64) : lg_cmp x y = if zbl y < zbl x then 1 else if zbl x = zbl y then 0 else -1 := by
  unfold lg_cmp
  by_cases h : zbl y < zbl x
  · rw [if_pos h, if_pos ((zbl_gt x y).mpr h)]
  · rw [if_neg h, if_neg (fun q => h ((zbl_gt x y).mp q))]
    by_cases h2 : zbl x = zbl y
    · rw [if_pos h2, if_pos ((zbl_eq x y).mpr h2)]
    · rw [if_neg h2, if_neg (fun q => h2 ((zbl_eq x y).mp q))]
theorem zl_div {a b : Nat} (ha : a < 9223372036854775808) (h0 : 0 < b) (hb : b < 9223372036854775808) : lN a / lN b = lN (a / b) := by
  have hq : a / b < 9223372036854775808 := Nat.lt_of_le_of_lt (Nat.div_le_self _ _) ha
  apply Int64.toInt_inj.mp
  rw [Jvm.Kit.i64_div (by rw [zl_toIntP ha, zl_toIntP hb]; omega), zl_toIntP ha, zl_toIntP hb, zl_toIntP hq, Int.tdiv_eq_ediv_of_nonneg (by omega)]
  rfl
theorem zl_rem {a b : Nat} (ha : a < 9223372036854775808) (h0 : 0 < b) (hb : b < 9223372036854775808) : lN a - lN a / lN b * lN b = lN (a % b) := by
  rw [zl_div ha h0 hb, lN_mul, lN_sub (Nat.div_mul_le_self _ _)]
  congr 1
  have := Nat.div_add_mod a b
  rw [Nat.mul_comm] at this; omega
theorem zl_ne0 {n : Nat} (h0 : 0 < n) (h : n < 9223372036854775808) : ¬ lN n = 0 := by
  intro q
  have := congrArg Int64.toInt q
  rw [zl_toIntP h] at this
  have z : (0 : Int64).toInt = 0 := rfl
  omega
theorem zlandF (a b : Nat) : Nat.land (16 * a + 2) (16 * b + 2) = 16 * (a &&& b) + 2 := by
  have e : Nat.land (16 * a + 2) (16 * b + 2) = (16 * a + 2) &&& (16 * b + 2) := rfl
  rw [e]
  have h1 := Nat.shiftRight_and_distrib (a := 16 * a + 2) (b := 16 * b + 2) (i := 4)
  have h2 := Nat.and_mod_two_pow (a := 16 * a + 2) (b := 16 * b + 2) (n := 4)
  simp only [Nat.shiftRight_eq_div_pow] at h1
  rw [show (2 : Nat) ^ 4 = 16 from rfl] at h1 h2
  rw [zq16', zq16'] at h1
  rw [show (16 * a + 2) % 16 = 2 by omega, show (16 * b + 2) % 16 = 2 by omega, show (2 : Nat) &&& 2 = 2 from rfl] at h2
  omega
theorem zlorF (a b : Nat) : Nat.lor (16 * a + 2) (16 * b + 2) = 16 * (a ||| b) + 2 := by
  have e : Nat.lor (16 * a + 2) (16 * b + 2) = (16 * a + 2) ||| (16 * b + 2) := rfl
  rw [e]
  have h1 := Nat.shiftRight_or_distrib (a := 16 * a + 2) (b := 16 * b + 2) (i := 4)
  have h2 := Nat.or_mod_two_pow (a := 16 * a + 2) (b := 16 * b + 2) (n := 4)
  simp only [Nat.shiftRight_eq_div_pow] at h1
  rw [show (2 : Nat) ^ 4 = 16 from rfl] at h1 h2
  rw [zq16', zq16'] at h1
  rw [show (16 * a + 2) % 16 = 2 by omega, show (16 * b + 2) % 16 = 2 by omega, show (2 : Nat) ||| 2 = 2 from rfl] at h2
  omega
theorem zlxorF (a b : Nat) : Nat.add (Nat.xor (16 * a + 2) (16 * b + 2)) 2 = 16 * (a ^^^ b) + 2 := by
  have e : Nat.xor (16 * a + 2) (16 * b + 2) = (16 * a + 2) ^^^ (16 * b + 2) := rfl
  rw [e]
  have h1 := Nat.shiftRight_xor_distrib (a := 16 * a + 2) (b := 16 * b + 2) (i := 4)
  have h2 := Nat.xor_mod_two_pow (a := 16 * a + 2) (b := 16 * b + 2) (n := 4)
  simp only [Nat.shiftRight_eq_div_pow] at h1
  rw [show (2 : Nat) ^ 4 = 16 from rfl] at h1 h2
  rw [zq16', zq16'] at h1
  rw [show (16 * a + 2) % 16 = 2 by omega, show (16 * b + 2) % 16 = 2 by omega, show (2 : Nat) ^^^ 2 = 0 from rfl] at h2
  rw [Nat.add_eq]
  omega
theorem zladdF (a b : Nat) : Nat.add (Nat.mod (Nat.sub (Nat.add (16 * a + 2) (16 * b + 2)) 4) 295147905179352825856) 2 = 16 * ((a + b) % 18446744073709551616) + 2 := by
  rw [zmd, Nat.add_eq, Nat.add_eq, Nat.sub_eq]
  omega
theorem zlsubF (a b : Nat) (hb : b < 18446744073709551616) : Nat.add (Nat.mod (Nat.sub (Nat.add 295147905179352825856 (16 * a + 2)) (16 * b + 2)) 295147905179352825856) 2 = 16 * ((a + (18446744073709551616 - b)) % 18446744073709551616) + 2 := by
  rw [zmd, Nat.add_eq, Nat.add_eq, Nat.sub_eq]
  omega
theorem zlmulF (a b : Nat) : Nat.add (Nat.mod (Nat.mul (Nat.sub (16 * a + 2) 2) (Nat.shiftRight (16 * b + 2) 4)) 295147905179352825856) 2 = 16 * (a * b % 18446744073709551616) + 2 := by
  rw [zs4, zq16', zmd, Nat.add_eq, Nat.mul_eq, Nat.sub_eq, show 16 * a + 2 - 2 = 16 * a by omega, Nat.mul_assoc]
  generalize a * b = c
  omega
theorem zlshlF (a b : Nat) : Nat.add (Nat.mod (Nat.shiftLeft (Nat.sub (16 * a + 2) 2) (Nat.mod (Nat.shiftRight (16 * b) 4) 64)) 295147905179352825856) 2 = 16 * (a * 2 ^ (b % 64) % 18446744073709551616) + 2 := by
  rw [zcnl, zslp, zmd, Nat.add_eq, Nat.sub_eq, show 16 * a + 2 - 2 = 16 * a by omega, Nat.mul_assoc]
  generalize a * 2 ^ (b % 64) = c
  omega

theorem ok_ladd (hm : zM m = some md) (hd : decode md.2.1 pc = .ok (.ladd, 1)) (hn : pc + 1 = nx) : zOK Pre m pc (s_ladd nx) := by
  subst hn
  exact ok_zbin _ (zst_l (g := fun a b => a + b) hm fun p l e R s mid args below meth c H locs cells slots Q lsA a b rest hx hb k => lv_ladd hx hb hd k) (zBl' fun a b ha hb => ⟨_, Nat.mod_lt _ (by decide), zladdF a b, by rw [zl_mod, lN_add]⟩) zB2_no
theorem ok_lsub (hm : zM m = some md) (hd : decode md.2.1 pc = .ok (.lsub, 1)) (hn : pc + 1 = nx) : zOK Pre m pc (s_lsub nx) := by
  subst hn
  exact ok_zbin _ (zst_l (g := fun a b => a - b) hm fun p l e R s mid args below meth c H locs cells slots Q lsA a b rest hx hb k => lv_lsub hx hb hd k) (zBl' fun a b ha hb => ⟨_, Nat.mod_lt _ (by decide), zlsubF a b hb, by rw [zl_mod, zl_sub (by omega)]⟩) zB2_no
theorem ok_lmul (hm : zM m = some md) (hd : decode md.2.1 pc = .ok (.lmul, 1)) (hn : pc + 1 = nx) : zOK Pre m pc (s_lmul nx) := by
  subst hn
  exact ok_zbin _ (zst_l (g := fun a b => a * b) hm fun p l e R s mid args below meth c H locs cells slots Q lsA a b rest hx hb k => lv_lmul hx hb hd k) (zBl' fun a b ha hb => ⟨_, Nat.mod_lt _ (by decide), zlmulF a b, by rw [zl_mod, lN_mul]⟩) zB2_no
theorem zlandI_s : zB2 zlandI (fun X Y Z => ∃ a b : Int64, X = .long a ∧ Y = .long b ∧ Z = .long (a &&& b)) := by
  intro x y k o h
  obtain ⟨b1, h⟩ := zB h
  obtain ⟨v, m, h, hx⟩ := zwl_s h
  obtain ⟨q, h9, hq⟩ := zml_s h
  refine ⟨q, h9, fun E ad X Y hG r1 r2 => ?_⟩
  obtain ⟨a, ha, rfl, h1⟩ := hx E ad X r1
  obtain ⟨c, e, hc, rfl⟩ := zn2 (zkq b1) r2
  have e2 : Nat.shiftRight y 4 = c := by rw [zs4]; omega
  rw [e2] at hq
  exact ⟨.long (lN (a &&& c)), hq E ad _ (Nat.and_lt_two_pow (n := 64) _ hc) (zb_and c h1.2), _, _, rfl, rfl, by rw [wb_and ha hc]⟩
theorem zlorI_s : zB2 zlorI (fun X Y Z => ∃ a b : Int64, X = .long a ∧ Y = .long b ∧ Z = .long (a ||| b)) := by
  intro x y k o h
  obtain ⟨v, m, h, hx⟩ := zwl_s h
  obtain ⟨v2, m2, h, hy⟩ := zwl_s h
  obtain ⟨q, h9, hq⟩ := zml_s h
  refine ⟨q, h9, fun E ad X Y hG r1 r2 => ?_⟩
  obtain ⟨a, ha, rfl, h1⟩ := hx E ad X r1
  obtain ⟨c, hc, rfl, h2⟩ := hy E ad Y r2
  exact ⟨.long (lN (a ||| c)), hq E ad _ (Nat.or_lt_two_pow (n := 64) ha hc) (zb_or h1.2 h2.2), _, _, rfl, rfl, by rw [wb_or ha hc]⟩
theorem ok_land (hm : zM m = some md) (hd : decode md.2.1 pc = .ok (.land, 1)) (hn : pc + 1 = nx) : zOK Pre m pc (s_land nx) := by
  subst hn
  exact ok_zbin _ (zst_l (g := fun a b => a &&& b) hm fun p l e R s mid args below meth c H locs cells slots Q lsA a b rest hx hb k => lv_land hx hb hd k) (zBl' fun a b ha hb => ⟨_, Nat.and_lt_two_pow (n := 64) _ hb, zlandF a b, wb_and ha hb⟩) zlandI_s
theorem ok_lor (hm : zM m = some md) (hd : decode md.2.1 pc = .ok (.lor, 1)) (hn : pc + 1 = nx) : zOK Pre m pc (s_lor nx) := by
  subst hn
  exact ok_zbin _ (zst_l (g := fun a b => a ||| b) hm fun p l e R s mid args below meth c H locs cells slots Q lsA a b rest hx hb k => lv_lor hx hb hd k) (zBl' fun a b ha hb => ⟨_, Nat.or_lt_two_pow (n := 64) ha hb, zlorF a b, wb_or ha hb⟩) zlorI_s
theorem ok_lxor (hm : zM m = some md) (hd : decode md.2.1 pc = .ok (.lxor, 1)) (hn : pc + 1 = nx) : zOK Pre m pc (s_lxor nx) := by
  subst hn
  exact ok_zbin _ (zst_l (g := fun a b => a ^^^ b) hm fun p l e R s mid args below meth c H locs cells slots Q lsA a b rest hx hb k => lv_lxor hx hb hd k) (zBl' fun a b ha hb => ⟨_, Nat.xor_lt_two_pow (n := 64) ha hb, zlxorF a b, lN_xor a b⟩) zB2_no
theorem zshz_s {g : Int64 → Int32 → Int64} (hg : ∀ i, g (lN 0) i = lN 0) : zB2 zshz (zopS g) := by
  intro x y k o h
  obtain ⟨b1, h⟩ := zB h
  obtain ⟨b2, h9⟩ := zB h
  have b1 : x = 16 * 0 + 2 := zbeq b1
  subst b1
  refine ⟨_, h9, fun E ad X Y hG r1 r2 => ?_⟩
  obtain ⟨a, e, ha, rfl⟩ := zn2 (by omega) r1
  obtain rfl : a = 0 := by omega
  obtain ⟨i, rfl, -⟩ := (zr3 (zkq b2) Y).mp r2
  exact ⟨.long (lN 0), zn2' (a := 0) (by decide), _, _, rfl, rfl, by rw [hg]⟩
theorem zl0shl (i : Int32) : lN 0 <<< (i.toInt64 &&& 63) = lN 0 := by
  obtain ⟨n, hn, rfl⟩ := wb_of32 i
  rw [zl_shl (by omega), Nat.zero_mul]
theorem zl0shr (i : Int32) : lN 0 >>> (i.toInt64 &&& 63) = lN 0 := by
  obtain ⟨n, hn, rfl⟩ := wb_of32 i
  rw [zl_shrP (by decide) (by omega), Nat.zero_div]
theorem zl0ushr (i : Int32) : ((lN 0).toUInt64 >>> (i.toInt64.toUInt64 &&& Int64.toUInt64 63)).toInt64 = lN 0 := by
  obtain ⟨n, hn, rfl⟩ := wb_of32 i
  rw [zl_ushr (by decide) (by omega), Nat.zero_div]
theorem zshlT_s {g : Int64 → Int32 → Int64} (hg : ∀ i, g (lN 0) i = lN 0) (hg2 : ∀ a b, b < 4294967296 → g (lN a) (nI b) = lN (a * 2 ^ (b % 64))) : zB2 zshlT (zopS g) := by
  intro x y k o h
  rcases zBc h with ⟨b1, h⟩ | ⟨-, h⟩
  · obtain ⟨b2, h⟩ := zB h
    rw [zf_eq] at h
    obtain ⟨q, h9, hq⟩ := zml_s h
    refine ⟨q, h9, fun E ad X Y hG r1 r2 => ?_⟩
    obtain ⟨a, ha, rfl, h1⟩ := zn14 (zkq b1) r1
    obtain ⟨c, rfl, hc, rfl⟩ := zn0 (zkq b2) r2
    have es : Nat.mod (Nat.shiftRight (16 * c) 4) 64 = c % 64 := by rw [zmd, zs4]; omega
    rw [es] at hq
    have e1 : ∀ n, Nat.mod (Nat.shiftLeft n (c % 64)) 18446744073709551616 = n * 2 ^ (c % 64) % 2 ^ 64 := fun n => by
      rw [zmd]; exact congrArg (· % 18446744073709551616) (Nat.shiftLeft_eq n (c % 64))
    rw [e1, e1] at hq
    refine ⟨.long (lN (a * 2 ^ (c % 64) % 2 ^ 64)), hq E ad _ (Nat.mod_lt _ (by decide)) (zb_mod 64 (zb_shl _ h1.2)), _, _, rfl, rfl, ?_⟩
    rw [hg2 a c hc, ← wb_mod]
  · exact zshz_s hg x y k o h
theorem zushrT_s {g : Int64 → Int32 → Int64} (hg : ∀ i, g (lN 0) i = lN 0) (hg2 : ∀ a b, a < 18446744073709551616 → b < 4294967296 → g (lN a) (nI b) = lN (a / 2 ^ (b % 64))) : zB2 zushrT (zopS g) := by
  intro x y k o h
  rcases zBc h with ⟨b1, h⟩ | ⟨-, h⟩
  · obtain ⟨b2, h⟩ := zB h
    rw [zf_eq] at h
    obtain ⟨q, h9, hq⟩ := zml_s h
    refine ⟨q, h9, fun E ad X Y hG r1 r2 => ?_⟩
    obtain ⟨a, ha, rfl, h1⟩ := zn14 (zkq b1) r1
    obtain ⟨c, rfl, hc, rfl⟩ := zn0 (zkq b2) r2
    have es : Nat.mod (Nat.shiftRight (16 * c) 4) 64 = c % 64 := by rw [zmd, zs4]; omega
    rw [es, zsrp, zsrp] at hq
    have h4 : a / 2 ^ (c % 64) ≤ a := Nat.div_le_self _ _
    refine ⟨.long (lN (a / 2 ^ (c % 64))), hq E ad _ (by omega) (zb_shr _ h1.2), _, _, rfl, rfl, ?_⟩
    rw [hg2 a c ha hc]
  · exact zshz_s hg x y k o h
theorem ok_lshl (hm : zM m = some md) (hd : decode md.2.1 pc = .ok (.lshl, 1)) (hn : pc + 1 = nx) : zOK Pre m pc (s_lshl nx) := by
  subst hn
  refine ok_zbin (zopS fun a b => a <<< (b.toInt64 &&& 63)) (zst_s hm fun p l e R s mid args below meth c H locs cells slots Q lsA a b rest hx hb k => lv_lshl hx hb hd rfl k) (zBks fun a b k o h => ?_) (zshlT_s zl0shl fun a b hb => zl_shl hb)
  rw [zf_eq, zlshlF] at h
  exact ⟨_, h, fun ha hb => ⟨_, Nat.mod_lt _ (by decide), rfl, by rw [zl_mod, zl_shl hb]⟩⟩
theorem ok_lshr (hm : zM m = some md) (hd : decode md.2.1 pc = .ok (.lshr, 1)) (hn : pc + 1 = nx) : zOK Pre m pc (s_lshr nx) := by
  subst hn
  refine ok_zbin (zopS fun a b => a >>> (b.toInt64 &&& 63)) (zst_s hm fun p l e R s mid args below meth c H locs cells slots Q lsA a b rest hx hb k => lv_lshr hx hb hd rfl k) (zBks fun a b k o h => ?_) (zshz_s zl0shr)
  rcases zBc h with ⟨b1, h⟩ | ⟨b1, h⟩
  · rw [zf_eq, zsl4, zsr4, zcnl] at h
    have b1 : 147573952589676412928 ≤ 16 * a + 2 := zble b1
    refine ⟨_, h, fun ha hb => ⟨18446744073709551615 - (18446744073709551615 - a) / 2 ^ (b % 64), Nat.lt_of_le_of_lt (Nat.sub_le _ _) (by decide), ?_, zl_shrN (by omega) ha hb⟩⟩
    have e : (295147905179352825842 - (16 * a + 2)) / 16 = 18446744073709551615 - a := by omega
    simp only [Nat.sub_eq, e]
    have := zdlt (b % 64) (show 18446744073709551615 - a < 18446744073709551616 by omega)
    omega
  · rw [zf_eq, zsl4, zsr4, zcnl, zq16', Nat.add_eq] at h
    have b1 : 16 * a + 2 < 147573952589676412928 := znble b1
    exact ⟨_, h, fun ha hb => ⟨a / 2 ^ (b % 64), zdlt _ ha, rfl, zl_shrP (by omega) hb⟩⟩
theorem ok_lushr (hm : zM m = some md) (hd : decode md.2.1 pc = .ok (.lushr, 1)) (hn : pc + 1 = nx) : zOK Pre m pc (s_lushr nx) := by
  subst hn
  refine ok_zbin (zopS fun a b => (a.toUInt64 >>> (b.toInt64.toUInt64 &&& Int64.toUInt64 63)).toInt64) (zst_s hm fun p l e R s mid args below meth c H locs cells slots Q lsA a b rest hx hb k => lv_lushr hx hb hd rfl k) (zBks fun a b k o h => ?_) (zushrT_s zl0ushr fun a b ha hb => zl_ushr ha hb)
  rw [zf_eq, zsl4, zsr4', zcnl, zq16', Nat.add_eq] at h
  exact ⟨_, h, fun ha hb => ⟨a / 2 ^ (b % 64), zdlt _ ha, rfl, zl_ushr ha hb⟩⟩
theorem ok_ldiv (hm : zM m = some md) (hd : decode md.2.1 pc = .ok (.ldiv, 1)) (hn : pc + 1 = nx) : zOK Pre m pc (s_ldiv nx) := by
  subst hn
  refine ok_zbin (zopL (fun a b => a / b) fun b => ¬ b = 0) (zst_lc hm fun p l e R s mid args below meth c H locs cells slots Q lsA a b rest hne hx hb k => lv_ldiv hx hb hd hne k) (zBkl fun a b k o h => ?_) zB2_no
  obtain ⟨b1, b2, b3, h⟩ := zdv_s h
  have ed : ∀ n k : Nat, Nat.div n k = n / k := fun _ _ => rfl
  rw [zf_eq, zsl4, zs4, zs4, zq16', zq16', Nat.add_eq, ed] at h
  have b1 : 16 * a + 2 < 147573952589676412928 := b1
  have b2 : 16 * b + 2 < 147573952589676412928 := b2
  rw [zq16'] at b3
  exact ⟨_, h, fun ha hb => ⟨a / b, Nat.lt_of_le_of_lt (Nat.div_le_self _ _) ha, rfl, zl_ne0 (by omega) (by omega), zl_div (by omega) (by omega) (by omega)⟩⟩
theorem ok_lrem (hm : zM m = some md) (hd : decode md.2.1 pc = .ok (.lrem, 1)) (hn : pc + 1 = nx) : zOK Pre m pc (s_lrem nx) := by
  subst hn
  refine ok_zbin (zopL (fun a b => a - a / b * b) fun b => ¬ b = 0) (zst_lc hm fun p l e R s mid args below meth c H locs cells slots Q lsA a b rest hne hx hb k => lv_lrem hx hb hd hne k) (zBkl fun a b k o h => ?_) zB2_no
  obtain ⟨b1, b2, b3, h⟩ := zdv_s h
  rw [zf_eq, zsl4, zs4, zs4, zq16', zq16', Nat.add_eq, zmd] at h
  have b1 : 16 * a + 2 < 147573952589676412928 := b1
  have b2 : 16 * b + 2 < 147573952589676412928 := b2
  rw [zq16'] at b3
  exact ⟨_, h, fun ha hb => ⟨a % b, Nat.lt_of_le_of_lt (Nat.mod_le _ _) ha, rfl, zl_ne0 (by omega) (by omega), zl_rem (by omega) (by omega) (by omega)⟩⟩
-- doubles
theorem zn7 {E : zen} {ad : zam} {n : Nat} : zrel E ad (16 * n + 7) (.double (UInt64.ofNat n)) := by
  refine (zr7 (by omega) _).mpr ?_
  rw [show (16 * n + 7) / 16 = n by omega]
theorem zn7i {E : zen} {ad : zam} {n : Nat} {X : Value} (r : zrel E ad (16 * n + 7) X) : X = .double (UInt64.ofNat n) := by
  have := (zr7 (by omega) _).mp r
  rw [show (16 * n + 7) / 16 = n by omega] at this
  exact this
theorem ok_ddiv (hm : zM m = some md) (hd : decode md.2.1 pc = .ok (.ddiv, 1)) (hn : pc + 1 = nx) : zOK Pre m pc (s_ddiv nx) := by
  subst hn
  refine ok_zbin (fun X Y Z => X = .double (UInt64.ofNat 0) ∧ Y = .double (UInt64.ofNat 4620693217682128896) ∧ Z = .double (FP.ddiv (UInt64.ofNat 0) (UInt64.ofNat 4620693217682128896))) ?_ (fun x y k o h1 h2 h => ?_) zB2_no
  · rintro X Y Z rest ⟨rfl, rfl, rfl⟩ p l e R s mid args below meth c H locs cells slots Q lsA hF k
    obtain ⟨hx, hb, -⟩ := hF.of hm
    exact lv_ddiv hx hb hd (by unfold vf_n64; decide +kernel) k
  · obtain ⟨b1, h⟩ := zB h
    obtain ⟨b2, h9⟩ := zB h
    have b1 : x = 16 * 0 + 7 := zbeq b1
    have b2 : y = 16 * 4620693217682128896 + 7 := zbeq b2
    subst b1
    subst b2
    refine ⟨_, h9, fun E ad X Y hG r1 r2 => ⟨_, zn7 (n := 0), zn7i r1, zn7i r2, ?_⟩⟩
    have : FP.ddiv (UInt64.ofNat 0) (UInt64.ofNat 4620693217682128896) = UInt64.ofNat 0 := by decide +kernel
    rw [this]
theorem ok_dcmpl {op : CmpOp} (hm : zM m = some md) (hd : decode md.2.1 pc = .ok (.dcmp op, 1)) (ho : Op.cmpValue (FP.dcmp (UInt64.ofNat 0) (UInt64.ofNat 0)) op = nI 0) (hn : pc + 1 = nx) : zOK Pre m pc (s_dcmpl nx) := by
  subst hn
  refine ok_zbin (fun X Y Z => X = .double (UInt64.ofNat 0) ∧ Y = .double (UInt64.ofNat 0) ∧ Z = .int (nI 0)) ?_ (fun x y k o h1 h2 h => ?_) zB2_no
  · rintro X Y Z rest ⟨rfl, rfl, rfl⟩ p l e R s mid args below meth c H locs cells slots Q lsA hF k
    obtain ⟨hx, hb, -⟩ := hF.of hm
    exact lv_dcmp hx hb hd (by rw [ho]; exact k)
  · obtain ⟨b1, h⟩ := zB h
    obtain ⟨b2, h9⟩ := zB h
    have b1 : x = 16 * 0 + 7 := zbeq b1
    have b2 : y = 16 * 0 + 7 := zbeq b2
    subst b1
    subst b2
    exact ⟨_, h9, fun E ad X Y hG r1 r2 => ⟨_, zn0' (a := 0) (by decide), zn7i r1, zn7i r2, rfl⟩⟩
end Longs
