section Arith
variable {Pre : zgl → zctx → Prop} {m pc nx : Nat} {md : zMD}
theorem zmulF (a b : Nat) : Nat.mod (Nat.mul (16 * a) (Nat.shiftRight (16 * b) 4)) 68719476736 = 16 * (a * b % 4294967296) := by
  rw [zs4]
  have e : Nat.mod (Nat.mul (16 * a) (16 * b / 16)) 68719476736 = (16 * a * (16 * b / 16)) % 68719476736 := rfl
  rw [e, show 16 * b / 16 = b by omega, Nat.mul_assoc]
  generalize a * b = c
  omega
theorem zaddF (a b : Nat) : Nat.mod (Nat.add (16 * a) (16 * b)) 68719476736 = 16 * ((a + b) % 4294967296) := by
  have e1 : ∀ n k : Nat, Nat.mod n k = n % k := fun _ _ => rfl
  simp only [Nat.add_eq, e1]
  omega
theorem zsubF (a b : Nat) : Nat.mod (Nat.add (16 * a) (Nat.sub 68719476736 (16 * b))) 68719476736 = 16 * ((a + (4294967296 - b)) % 4294967296) := by
  have e1 : ∀ n k : Nat, Nat.mod n k = n % k := fun _ _ => rfl
  simp only [Nat.add_eq, Nat.sub_eq, e1]
  omega
theorem zandF (a b : Nat) : Nat.land (16 * a) (16 * b) = 16 * (a &&& b) := by
  have e : Nat.land (16 * a) (16 * b) = (16 * a) &&& (16 * b) := rfl
  rw [e, Nat.mul_comm 16 a, Nat.mul_comm 16 b, Nat.mul_comm 16]
  have h := Nat.shiftLeft_and_distrib (i := 4) (a := a) (b := b)
  simpa [Nat.shiftLeft_eq] using h.symm
theorem zorF (a b : Nat) : Nat.lor (16 * a) (16 * b) = 16 * (a ||| b) := by
  have e : Nat.lor (16 * a) (16 * b) = (16 * a) ||| (16 * b) := rfl
  rw [e, Nat.mul_comm 16 a, Nat.mul_comm 16 b, Nat.mul_comm 16]
  have h := Nat.shiftLeft_or_distrib (i := 4) (a := a) (b := b)
  simpa [Nat.shiftLeft_eq] using h.symm
theorem zxorF (a b : Nat) : Nat.xor (16 * a) (16 * b) = 16 * (a ^^^ b) := by
  have e : Nat.xor (16 * a) (16 * b) = (16 * a) ^^^ (16 * b) := rfl
  rw [e, Nat.mul_comm 16 a, Nat.mul_comm 16 b, Nat.mul_comm 16]
  have h := Nat.shiftLeft_xor_distrib (i := 4) (a := a) (b := b)
  simpa [Nat.shiftLeft_eq] using h.symm
theorem zaddO_eq (x y : Nat) (k : Nat → zR) : zaddO x y k = zrng x fun a b => zrng y fun c d => @Bool.rec (fun _ => zR) none (@Bool.rec (fun _ => zR) none (zivl (a + c - 2147483648) (b + d - 2147483648) k) (Nat.ble (b + d) 6442450943)) (Nat.ble 2147483648 (a + c)) := by unfold zaddO; simp only [Nat.add_eq, Nat.sub_eq]
theorem zsubO_eq (x y : Nat) (k : Nat → zR) : zsubO x y k = zrng x fun a b => zrng y fun c d => @Bool.rec (fun _ => zR) none (@Bool.rec (fun _ => zR) none (zivl (2147483648 + a - d) (2147483648 + b - c) k) (Nat.ble (2147483648 + b) (4294967295 + c))) (Nat.ble d (2147483648 + a)) := by unfold zsubO; simp only [Nat.add_eq, Nat.sub_eq]
theorem zsrp (n k : Nat) : Nat.shiftRight n k = n / 2 ^ k := Nat.shiftRight_eq_div_pow n k
theorem zmd (n k : Nat) : Nat.mod n k = n % k := rfl
-- ints between two
theorem zbi_add {i j : Int32} (h1 : 2147483648 ≤ zbi i + zbi j) (h2 : zbi i + zbi j ≤ 6442450943) : zbi (i + j) = zbi i + zbi j - 2147483648 := by
  have e : (i + j).toInt = i.toInt + j.toInt := by
    rw [Int32.toInt_add]
    have a1 := zbi_toInt i; have a2 := zbi_toInt j
    exact Int.bmod_eq_of_le (by omega) (by omega)
  have a1 := zbi_toInt i; have a2 := zbi_toInt j; have a3 := zbi_toInt (i + j)
  omega
theorem zbi_sub {i j : Int32} (h1 : zbi j ≤ zbi i + 2147483648) (h2 : zbi i + 2147483648 ≤ zbi j + 4294967295) : zbi (i - j) = zbi i + 2147483648 - zbi j := by
  have e : (i - j).toInt = i.toInt - j.toInt := by
    rw [Int32.toInt_sub]
    have a1 := zbi_toInt i; have a2 := zbi_toInt j
    exact Int.bmod_eq_of_le (by omega) (by omega)
  have a1 := zbi_toInt i; have a2 := zbi_toInt j; have a3 := zbi_toInt (i - j)
  omega
theorem zbi_of {i : Int32} (h : 2147483648 ≤ zbi i) : i = nI (zbi i - 2147483648) ∧ zbi i - 2147483648 < 2147483648 := by
  have hl := zbi_lt i
  refine ⟨zbi_inj ?_, by omega⟩
  rw [zbi_nI (by omega)]; omega
theorem zbi_n {n : Nat} (h : n < 2147483648) : zbi (nI n) = n + 2147483648 := by rw [zbi_nI (by omega)]; omega
theorem zble {a b : Nat} (h : Nat.ble a b = true) : a ≤ b := Nat.le_of_ble_eq_true h
theorem zbeq {a b : Nat} (h : Nat.beq a b = true) : a = b := Nat.eq_of_beq_eq_true h
theorem znble {a b : Nat} (h : Nat.ble a b = false) : b < a := by
  rcases Nat.lt_or_ge b a with q | q
  · exact q
  · rw [Nat.ble_eq_true_of_le q] at h; cases h
theorem znbeq {a b : Nat} (h : Nat.beq a b = false) : a ≠ b := fun q => by
  rw [q, Nat.beq_refl] at h; cases h
theorem zaddO_s : zB2 zaddO (fun X Y Z => ∃ a b : Int32, X = .int a ∧ Y = .int b ∧ Z = .int (a + b)) := by
  intro x y k o h
  rw [zaddO_eq] at h
  obtain ⟨a, b, hb0, h, h1⟩ := zrng_s h
  obtain ⟨c, d, hd0, h, h2⟩ := zrng_s h
  obtain ⟨b1, h⟩ := zB h
  obtain ⟨b2, h⟩ := zB h
  obtain ⟨q, h, hq⟩ := zivl_t h
  have b1 := zble b1
  have b2 := zble b2
  refine ⟨_, h, fun E ad X Y hG r1 r2 => ?_⟩
  obtain ⟨i, rfl, p1, p2⟩ := h1 E ad X hG r1
  obtain ⟨j, rfl, p3, p4⟩ := h2 E ad Y hG r2
  have e := zbi_add (i := i) (j := j) (by omega) (by omega)
  exact ⟨.int (i + j), hq E ad _ (by omega) (by omega) (by omega), i, j, rfl, rfl, rfl⟩
theorem zsubO_s : zB2 zsubO (fun X Y Z => ∃ a b : Int32, X = .int a ∧ Y = .int b ∧ Z = .int (a - b)) := by
  intro x y k o h
  rw [zsubO_eq] at h
  obtain ⟨a, b, hb0, h, h1⟩ := zrng_s h
  obtain ⟨c, d, hd0, h, h2⟩ := zrng_s h
  obtain ⟨b1, h⟩ := zB h
  obtain ⟨b2, h⟩ := zB h
  obtain ⟨q, h, hq⟩ := zivl_t h
  have b1 := zble b1
  have b2 := zble b2
  refine ⟨_, h, fun E ad X Y hG r1 r2 => ?_⟩
  obtain ⟨i, rfl, p1, p2⟩ := h1 E ad X hG r1
  obtain ⟨j, rfl, p3, p4⟩ := h2 E ad Y hG r2
  have e := zbi_sub (i := i) (j := j) (by omega) (by omega)
  exact ⟨.int (i - j), hq E ad _ (by omega) (by omega) (by omega), i, j, rfl, rfl, rfl⟩
theorem zmk0 {ms v : Nat} {k : zR} {o : zo} (h : zin ms v k = some o) : (ms >>> (v % 16)) &&& 1 ≠ 0 ∧ k = some o := by
  have e : Nat.land v 15 = v % 16 := zl15 v
  have h : @Nat.rec (fun _ => zR) none (fun _ _ => k) (Nat.land (Nat.shiftRight ms (Nat.land v 15)) 1) = some o := h
  rw [e] at h
  obtain ⟨j, h1, h2⟩ := zN h
  exact ⟨fun z => by
    have z : Nat.land (Nat.shiftRight ms (v % 16)) 1 = 0 := z
    omega, h2⟩
theorem zaddI_s : zB2 zaddI (fun X Y Z => ∃ a b : Int32, X = .int a ∧ Y = .int b ∧ Z = .int (a + b)) := by
  intro x y k o h
  rcases zBc h with ⟨b1, h⟩ | ⟨-, h⟩
  · obtain ⟨b2, h9⟩ := zmk0 h
    have b1 : y = 16 * 0 := zbeq b1
    subst b1
    refine ⟨_, h9, fun E ad X Y hG r1 r2 => ?_⟩
    obtain ⟨a, rfl⟩ := zint (zkindI b2) r1
    obtain ⟨b, e, hb, rfl⟩ := zn0 (by omega) r2
    obtain rfl : b = 0 := by omega
    exact ⟨_, r1, a, _, rfl, rfl, by rw [nI_0, Int32.add_zero]⟩
  · rcases zBc h with ⟨b1, h⟩ | ⟨-, h⟩
    · obtain ⟨b2, h9⟩ := zmk0 h
      have b1 : x = 16 * 0 := zbeq b1
      subst b1
      refine ⟨_, h9, fun E ad X Y hG r1 r2 => ?_⟩
      obtain ⟨a, rfl⟩ := zint (zkindI b2) r2
      obtain ⟨b, e, hb, rfl⟩ := zn0 (by omega) r1
      obtain rfl : b = 0 := by omega
      exact ⟨_, r2, _, a, rfl, rfl, by rw [nI_0, Int32.zero_add]⟩
    · exact zaddO_s x y k o h
theorem zsubI_s : zB2 zsubI (fun X Y Z => ∃ a b : Int32, X = .int a ∧ Y = .int b ∧ Z = .int (a - b)) := by
  intro x y k o h
  rcases zBc h with ⟨b1, h⟩ | ⟨-, h⟩
  · obtain ⟨b2, h⟩ := zB h
    obtain ⟨b3, h⟩ := zB h
    obtain ⟨q, h9, hq⟩ := zmi_s h
    have b3 : Nat.shiftRight y 4 ≤ zlo x := zble b3
    refine ⟨q, h9, fun E ad X Y hG r1 r2 => ?_⟩
    obtain ⟨a, ha, rfl, h1⟩ := zn15 (zkq b1) r1
    obtain ⟨c, e, hc, rfl⟩ := zn0 (zkq b2) r2
    have e2 : Nat.shiftRight y 4 = c := by rw [zs4]; omega
    rw [e2] at b3 hq
    have h3 := zbt_lo h1
    obtain ⟨b4, -⟩ := zB h
    rw [e2] at b4
    have b4 : (zlo x - c) &&& zhi x = 0 := zbeq b4
    refine ⟨.int (nI (a - c)), hq E ad _ (by omega) (zb_sub h1 b3 b4), _, _, rfl, rfl, ?_⟩
    rw [zi_sub (by omega), ← zi_mod (a + (4294967296 - c)), show (a + (4294967296 - c)) % 4294967296 = a - c by omega]
  · exact zsubO_s x y k o h
theorem zmulI_s : zB2 zmulI (fun X Y Z => ∃ a b : Int32, X = .int a ∧ Y = .int b ∧ Z = .int (a * b)) := by
  intro x y k o h
  obtain ⟨b1, h⟩ := zB h
  obtain ⟨b2, h9⟩ := zmk0 h
  have b1 : x = 16 * 1 := zbeq b1
  subst b1
  refine ⟨_, h9, fun E ad X Y hG r1 r2 => ?_⟩
  obtain ⟨a, rfl⟩ := zint (zkindI b2) r2
  obtain ⟨b, e, hb, rfl⟩ := zn0 (by omega) r1
  obtain rfl : b = 1 := by omega
  exact ⟨_, r2, _, a, rfl, rfl, by rw [show nI 1 = 1 from rfl, Int32.one_mul]⟩
theorem zandI_s : zB2 zandI (fun X Y Z => ∃ a b : Int32, X = .int a ∧ Y = .int b ∧ Z = .int (a &&& b)) := by
  intro x y k o h
  rcases zBc h with ⟨b1, h⟩ | ⟨-, h⟩
  · obtain ⟨b2, h⟩ := zB h
    rw [zf_eq] at h
    have b1 : x % 16 = 12 := zkq b1
    have b2 : y = 16 * 63 := zbeq b2
    subst b2
    have e0 : x - 12 = 16 * (x / 16) := by omega
    have h8 : k (16 * (x / 16)) = some o := by rw [← e0]; exact h
    refine ⟨_, h8, fun E ad X Y hG r1 r2 => ?_⟩
    obtain ⟨i, rfl, p1, p2⟩ := (zr12 b1 X).mp r1
    obtain ⟨c, e, hc, rfl⟩ := zn0 (by omega) r2
    have hc : c = 63 := by omega
    subst hc
    exact ⟨_, zn0' (by omega), i, 63, rfl, rfl, by rw [p2]; rfl⟩
  · obtain ⟨b1, h⟩ := zB h
    obtain ⟨b2, h⟩ := zB h
    obtain ⟨q, h9, hq⟩ := zmi_s h
    refine ⟨q, h9, fun E ad X Y hG r1 r2 => ?_⟩
    obtain ⟨a, ha, rfl, h1⟩ := zn15 (zkq b1) r1
    obtain ⟨c, e, hc, rfl⟩ := zn0 (zkq b2) r2
    have e2 : Nat.shiftRight y 4 = c := by rw [zs4]; omega
    rw [e2] at hq
    exact ⟨.int (nI (a &&& c)), hq E ad _ (Nat.and_lt_two_pow (n := 32) _ hc) (zb_and c h1.2), _, _, rfl, rfl, by rw [zi_and]⟩
theorem zshrO_s {g : Int32 → Int32 → Int32} (hg : ∀ a b, a < 2147483648 → b < 4294967296 → g (nI a) (nI b) = nI (a / 2 ^ (b % 32))) : zB2 zshrO (fun X Y Z => ∃ a b : Int32, X = .int a ∧ Y = .int b ∧ Z = .int (g a b)) := by
  intro x y k o h
  unfold zshrO at h
  obtain ⟨b1, h⟩ := zB h
  obtain ⟨a, b, hb0, h, h1⟩ := zrng_s h
  obtain ⟨b2, h⟩ := zB h
  rw [zf_eq] at h
  obtain ⟨q, h, hq⟩ := zivl_t h
  have b2 : 2147483648 ≤ a := zble b2
  refine ⟨_, h, fun E ad X Y hG r1 r2 => ?_⟩
  obtain ⟨i, rfl, p1, p2⟩ := h1 E ad X hG r1
  obtain ⟨c, rfl, hc, rfl⟩ := zn0 (zkq b1) r2
  obtain ⟨q1, q2⟩ := zbi_of (i := i) (by omega)
  have hl := zbi_lt i
  have es : Nat.mod (Nat.shiftRight (16 * c) 4) 32 = c % 32 := by rw [zmd, zs4]; omega
  rw [es, zsrp, zsrp] at hq
  simp only [Nat.add_eq, Nat.sub_eq] at hq
  have hp : 0 < 2 ^ (c % 32) := Nat.two_pow_pos _
  have w1 : (a - 2147483648) / 2 ^ (c % 32) ≤ (zbi i - 2147483648) / 2 ^ (c % 32) := Nat.div_le_div_right (by omega)
  have w2 : (zbi i - 2147483648) / 2 ^ (c % 32) ≤ (b - 2147483648) / 2 ^ (c % 32) := Nat.div_le_div_right (by omega)
  have w3 : (zbi i - 2147483648) / 2 ^ (c % 32) ≤ zbi i - 2147483648 := Nat.div_le_self _ _
  have w4 : (b - 2147483648) / 2 ^ (c % 32) ≤ b - 2147483648 := Nat.div_le_self _ _
  have e : zbi (g i (nI c)) = (zbi i - 2147483648) / 2 ^ (c % 32) + 2147483648 := by
    rw [q1, hg _ _ q2 hc, zbi_n (by omega), ← q1]
  exact ⟨.int (g i (nI c)), hq E ad _ (by omega) (by omega) (by omega), i, nI c, rfl, rfl, rfl⟩
theorem zshrI_s {g : Int32 → Int32 → Int32} (hg : ∀ a b, a < 2147483648 → b < 4294967296 → g (nI a) (nI b) = nI (a / 2 ^ (b % 32))) : zB2 zshrI (fun X Y Z => ∃ a b : Int32, X = .int a ∧ Y = .int b ∧ Z = .int (g a b)) := by
  intro x y k o h
  rcases zBc h with ⟨b1, h⟩ | ⟨-, h⟩
  · obtain ⟨b2, h⟩ := zB h
    obtain ⟨b3, h⟩ := zB h
    rw [zf_eq] at h
    obtain ⟨q, h9, hq⟩ := zmi_s h
    have b3 : zlo x ||| zhi x ≤ 2147483647 := zble b3
    refine ⟨q, h9, fun E ad X Y hG r1 r2 => ?_⟩
    obtain ⟨a, ha, rfl, h1⟩ := zn15 (zkq b1) r1
    obtain ⟨c, rfl, hc, rfl⟩ := zn0 (zkq b2) r2
    have es : Nat.mod (Nat.shiftRight (16 * c) 4) 32 = c % 32 := by rw [zmd, zs4]; omega
    rw [es, zsrp, zsrp] at hq
    have h3 := zbt_hi h1.2
    have h4 : a / 2 ^ (c % 32) ≤ a := Nat.div_le_self _ _
    exact ⟨.int (nI (a / 2 ^ (c % 32))), hq E ad _ (by omega) (zb_shr _ h1.2), _, _, rfl, rfl, by rw [hg a c (by omega) hc]⟩
  · exact zshrO_s hg x y k o h

theorem ok_iadd (hm : zM m = some md) (hd : decode md.2.1 pc = .ok (.iadd, 1)) (hn : pc + 1 = nx) : zOK Pre m pc (s_iadd nx) := by
  subst hn
  exact ok_zbin _ (zst_i (g := fun a b => a + b) hm fun p l e R s mid args below meth c H locs cells slots Q lsA a b rest hx hb k => lv_iadd hx hb hd k) (zBi' fun a b ha hb => ⟨(a + b) % 4294967296, by omega, zaddF a b, by rw [zi_mod, ← nI_add]⟩) (zaddI_s)
theorem ok_isub (hm : zM m = some md) (hd : decode md.2.1 pc = .ok (.isub, 1)) (hn : pc + 1 = nx) : zOK Pre m pc (s_isub nx) := by
  subst hn
  exact ok_zbin _ (zst_i (g := fun a b => a - b) hm fun p l e R s mid args below meth c H locs cells slots Q lsA a b rest hx hb k => lv_isub hx hb hd k) (zBi' fun a b ha hb => ⟨(a + (4294967296 - b)) % 4294967296, by omega, zsubF a b, by rw [zi_mod, ← zi_sub (by omega)]⟩) (zsubI_s)
theorem ok_imul (hm : zM m = some md) (hd : decode md.2.1 pc = .ok (.imul, 1)) (hn : pc + 1 = nx) : zOK Pre m pc (s_imul nx) := by
  subst hn
  exact ok_zbin _ (zst_i (g := fun a b => a * b) hm fun p l e R s mid args below meth c H locs cells slots Q lsA a b rest hx hb k => lv_imul hx hb hd k) (zBi' fun a b ha hb => ⟨a * b % 4294967296, by omega, zmulF a b, by rw [zi_mod, ← pk_mul]⟩) (zmulI_s)
theorem ok_iand (hm : zM m = some md) (hd : decode md.2.1 pc = .ok (.iand, 1)) (hn : pc + 1 = nx) : zOK Pre m pc (s_iand nx) := by
  subst hn
  exact ok_zbin _ (zst_i (g := fun a b => a &&& b) hm fun p l e R s mid args below meth c H locs cells slots Q lsA a b rest hx hb k => lv_iand hx hb hd k) (zBi' fun a b ha hb => ⟨a &&& b, Nat.and_lt_two_pow (n := 32) _ hb, zandF a b, by rw [zi_and]⟩) (zandI_s)
theorem ok_ior (hm : zM m = some md) (hd : decode md.2.1 pc = .ok (.ior, 1)) (hn : pc + 1 = nx) : zOK Pre m pc (s_ior nx) := by
  subst hn
  exact ok_zbin _ (zst_i (g := fun a b => a ||| b) hm fun p l e R s mid args below meth c H locs cells slots Q lsA a b rest hx hb k => lv_ior hx hb hd k) (zBi' fun a b ha hb => ⟨a ||| b, Nat.or_lt_two_pow (n := 32) ha hb, zorF a b, by rw [zi_or]⟩) (zB2_no)
theorem ok_ixor (hm : zM m = some md) (hd : decode md.2.1 pc = .ok (.ixor, 1)) (hn : pc + 1 = nx) : zOK Pre m pc (s_ixor nx) := by
  subst hn
  exact ok_zbin _ (zst_i (g := fun a b => a ^^^ b) hm fun p l e R s mid args below meth c H locs cells slots Q lsA a b rest hx hb k => lv_ixor hx hb hd k) (zBi' fun a b ha hb => ⟨a ^^^ b, Nat.xor_lt_two_pow (n := 32) ha hb, zxorF a b, by rw [zi_xor]⟩) (zB2_no)
end Arith
