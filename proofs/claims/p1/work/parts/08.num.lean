-- family wb_ of kit/laws/BITS.to-paste
theorem wb_tb (n : Nat) : (lN n).toBitVec = BitVec.ofNat 64 n := rfl
theorem wb_inj {a b : Int64} (h : a.toBitVec = b.toBitVec) : a = b := Int64.toBitVec_inj.mp h
theorem wb_tn {n : Nat} (h : n < 2 ^ 64) : (lN n).toBitVec.toNat = n := by rw [wb_tb, BitVec.toNat_ofNat, Nat.mod_eq_of_lt h]
theorem wb_of (x : Int64) : ∃ n, n < 2 ^ 64 ∧ x = lN n := ⟨x.toBitVec.toNat, x.toBitVec.isLt, wb_inj (by rw [wb_tb]; simp)⟩
theorem wb_of32 (x : Int32) : ∃ n, n < 2 ^ 32 ∧ x = nI n := ⟨x.toBitVec.toNat, x.toBitVec.isLt, Int32.toBitVec_inj.mp (by show _ = BitVec.ofNat 32 _; simp)⟩
theorem wb_c : ∀ k, k < 64 → ((nI k).toInt64 &&& 63) = lN k := by decide +kernel
theorem wb_cu : ∀ k, k < 64 → ((nI k).toInt64.toUInt64 &&& Int64.toUInt64 63) = UInt64.ofNat k := by decide +kernel
theorem wb_sm : ∀ k, k < 64 → (BitVec.ofNat 64 k).smod 64 = BitVec.ofNat 64 k := by decide +kernel
theorem wb_pw {a b : Nat} (h : a ≤ b) : 2 ^ b = 2 ^ a * 2 ^ (b - a) := by rw [← Nat.pow_add]; congr 1; omega
theorem wb_lt2 {a b : Nat} (h : a < b) : 2 ^ a < 2 ^ b := Nat.pow_lt_pow_right (by decide) h
theorem wb_mod (n : Nat) : lN n = lN (n % 2 ^ 64) := wb_inj (by rw [wb_tb, wb_tb]; apply BitVec.eq_of_toNat_eq; rw [BitVec.toNat_ofNat, BitVec.toNat_ofNat, Nat.mod_mod])
theorem wb_shr {n k : Nat} (hn : n < 2 ^ 64) (hk : k < 64) : ((lN n).toUInt64 >>> ((nI k).toInt64.toUInt64 &&& Int64.toUInt64 63)).toInt64 = lN (n / 2 ^ k) := by
  rw [wb_cu k hk]
  apply wb_inj
  apply BitVec.eq_of_toNat_eq
  show ((lN n).toUInt64 >>> UInt64.ofNat k).toNat = (BitVec.ofNat 64 _).toNat
  have h1 : (UInt64.ofNat k).toNat = k := by
    show (BitVec.ofNat 64 k).toNat = k
    rw [BitVec.toNat_ofNat, Nat.mod_eq_of_lt (by omega)]
  have h2 : (lN n).toUInt64.toNat = n := wb_tn hn
  rw [UInt64.toNat_shiftRight, h1, h2, Nat.mod_eq_of_lt hk, Nat.shiftRight_eq_div_pow, BitVec.toNat_ofNat, Nat.mod_eq_of_lt (Nat.lt_of_le_of_lt (Nat.div_le_self _ _) hn)]
theorem wb_shl (n : Nat) {k : Nat} (hk : k < 64) : lN n <<< ((nI k).toInt64 &&& 63) = lN (n * 2 ^ k) := by
  rw [wb_c k hk]
  apply wb_inj
  rw [Int64.toBitVec_shiftLeft, wb_tb, wb_tb, wb_tb, wb_sm k hk]
  apply BitVec.eq_of_toNat_eq
  rw [BitVec.shiftLeft_eq', BitVec.toNat_shiftLeft, BitVec.toNat_ofNat, BitVec.toNat_ofNat, BitVec.toNat_ofNat, Nat.mod_eq_of_lt (show k < 2 ^ 64 by omega), Nat.shiftLeft_eq, Nat.mul_mod, Nat.mod_mod, ← Nat.mul_mod]
theorem wb_and {a b : Nat} (ha : a < 2 ^ 64) (hb : b < 2 ^ 64) : lN a &&& lN b = lN (a &&& b) := by
  apply wb_inj
  rw [Int64.toBitVec_and, wb_tb, wb_tb, wb_tb]
  apply BitVec.eq_of_toNat_eq
  rw [BitVec.toNat_and, BitVec.toNat_ofNat, BitVec.toNat_ofNat, BitVec.toNat_ofNat, Nat.mod_eq_of_lt ha, Nat.mod_eq_of_lt hb, Nat.mod_eq_of_lt (Nat.and_lt_two_pow _ hb)]
theorem wb_or {a b : Nat} (ha : a < 2 ^ 64) (hb : b < 2 ^ 64) : lN a ||| lN b = lN (a ||| b) := by
  apply wb_inj
  rw [Int64.toBitVec_or, wb_tb, wb_tb, wb_tb]
  apply BitVec.eq_of_toNat_eq
  rw [BitVec.toNat_or, BitVec.toNat_ofNat, BitVec.toNat_ofNat, BitVec.toNat_ofNat, Nat.mod_eq_of_lt ha, Nat.mod_eq_of_lt hb, Nat.mod_eq_of_lt (Nat.or_lt_two_pow ha hb)]
theorem wb_mask {n k : Nat} (hn : n < 2 ^ 64) (hk : k < 64) : lN n &&& lN (2 ^ k - 1) = lN (n % 2 ^ k) := by
  rw [wb_and hn (by have := wb_lt2 hk; omega), Nat.and_two_pow_sub_one_eq_mod]
theorem wb_a1 {n : Nat} (hn : n < 2 ^ 64) : lN n &&& 1 = lN (n % 2) := wb_mask (k := 1) hn (by decide)
theorem lN_xor (a b : Nat) : lN a ^^^ lN b = lN (a ^^^ b) := by
  apply wb_inj; rw [Int64.toBitVec_xor, wb_tb, wb_tb, wb_tb]; apply BitVec.eq_of_getLsbD_eq; intro i hi; simp [BitVec.getLsbD_ofNat, Nat.testBit_xor, hi]
theorem zi_inj {a b : Int32} (h : a.toBitVec = b.toBitVec) : a = b := Int32.toBitVec_inj.mp h
theorem zi_mod (n : Nat) : nI (n % 4294967296) = nI n := zi_inj (by show BitVec.ofNat 32 _ = BitVec.ofNat 32 _; apply BitVec.eq_of_toNat_eq; rw [BitVec.toNat_ofNat, BitVec.toNat_ofNat]; omega)
theorem zl_mod (n : Nat) : lN (n % 18446744073709551616) = lN n := (wb_mod n).symm
theorem zi_sub {a b : Nat} (hb : b ≤ 4294967296) : nI a - nI b = nI (a + (4294967296 - b)) := by
  have h1 : nI (a + (4294967296 - b)) + nI b = nI a := by
    rw [nI_add, ← zi_mod, show (a + (4294967296 - b) + b) % 4294967296 = a % 4294967296 by omega, zi_mod]
  rw [← h1]
  exact Int32.add_sub_cancel _ _
theorem zl_sub {a b : Nat} (hb : b ≤ 18446744073709551616) : lN a - lN b = lN (a + (18446744073709551616 - b)) := by
  have h1 : lN (a + (18446744073709551616 - b)) + lN b = lN a := by
    rw [lN_add, ← zl_mod, show (a + (18446744073709551616 - b) + b) % 18446744073709551616 = a % 18446744073709551616 by omega, zl_mod]
  rw [← h1]
  exact Int64.add_sub_cancel _ _
theorem zi_neg {b : Nat} (hb : b ≤ 4294967296) : -nI b = nI (4294967296 - b) := by
  have h := zi_sub (a := 0) hb
  rw [Nat.zero_add] at h
  rw [← h]
  show -nI b = 0 - nI b
  exact (Int32.zero_sub _).symm
theorem zl_neg {b : Nat} (hb : b ≤ 18446744073709551616) : -lN b = lN (18446744073709551616 - b) := by
  have h := zl_sub (a := 0) hb
  rw [Nat.zero_add] at h
  rw [← h]
  show -lN b = 0 - lN b
  exact (Int64.zero_sub _).symm
theorem zi_and (a b : Nat) : nI a &&& nI b = nI (a &&& b) := zi_inj (by
  show BitVec.ofNat 32 a &&& BitVec.ofNat 32 b = BitVec.ofNat 32 (a &&& b)
  apply BitVec.eq_of_getLsbD_eq
  intro i hi
  simp [hi])
theorem zi_or (a b : Nat) : nI a ||| nI b = nI (a ||| b) := zi_inj (by
  show BitVec.ofNat 32 a ||| BitVec.ofNat 32 b = BitVec.ofNat 32 (a ||| b)
  apply BitVec.eq_of_getLsbD_eq
  intro i hi
  simp [hi])
theorem zi_xor (a b : Nat) : nI a ^^^ nI b = nI (a ^^^ b) := zi_inj (by
  show BitVec.ofNat 32 a ^^^ BitVec.ofNat 32 b = BitVec.ofNat 32 (a ^^^ b)
  apply BitVec.eq_of_getLsbD_eq
  intro i hi
  simp [hi])
theorem zi_cnt (b : Nat) (hb : b < 4294967296) : nI b &&& 31 = nI (b % 32) := pk_andN (n := b) (by omega) (m := 31) 5 (by decide)
theorem zi_smod : ∀ n, n < 32 → ((nI n).toBitVec.smod 32).toNat = n := by decide +kernel
theorem zi_shl {a b : Nat} (ha : a < 4294967296) (hb : b < 4294967296) : nI a <<< (nI b &&& 31) = nI (a * 2 ^ (b % 32)) := by
  rw [zi_cnt b hb]
  apply zi_inj
  apply BitVec.eq_of_toNat_eq
  rw [pk_shl _ _ (b % 32) (zi_smod _ (Nat.mod_lt _ (by decide))), pk_tn (by omega)]
  show _ = (BitVec.ofNat 32 _).toNat
  rw [BitVec.toNat_ofNat]
theorem zi_ucnt : ∀ n, n < 32 → (((nI n).toUInt32 &&& Int32.toUInt32 31).toBitVec % 32).toNat = n := by decide +kernel
theorem zi_ushr {a b : Nat} (ha : a < 4294967296) (hb : b < 4294967296) : ((nI a).toUInt32 >>> ((nI b).toUInt32 &&& Int32.toUInt32 31)).toInt32 = nI (a / 2 ^ (b % 32)) := by
  refine pk_ushrN (n := a) (by omega) (nI b) (b % 32) ?_
  have e : (nI b).toUInt32 &&& Int32.toUInt32 31 = (nI (b % 32)).toUInt32 &&& Int32.toUInt32 31 := by
    have h1 : (nI b &&& 31).toUInt32 = (nI (b % 32) &&& 31).toUInt32 := by
      rw [zi_cnt b hb, zi_cnt (b % 32) (by omega), Nat.mod_mod]
    exact h1
  rw [e]
  exact zi_ucnt _ (Nat.mod_lt _ (by decide))
theorem zi_neT {a : Nat} (h1 : 2147483648 ≤ a) (h2 : a < 4294967296) : (nI a).toInt = (a : Int) - 4294967296 := by
  have c := BitVec.toInt_eq_toNat_cond (nI a).toBitVec
  rw [pk_tn (by omega)] at c
  show (nI a).toBitVec.toInt = _
  rw [c]
  split <;> omega
theorem zi_shrN {a b : Nat} (h1 : 2147483648 ≤ a) (h2 : a < 4294967296) (hb : b < 4294967296) : nI a >>> (nI b &&& 31) = nI (4294967295 - (4294967295 - a) / 2 ^ (b % 32)) := by
  rw [zi_cnt b hb]
  apply Int32.toInt_inj.mp
  rw [pk_shr _ _ (b % 32) (zi_smod _ (Nat.mod_lt _ (by decide))), zi_neT h1 h2]
  have hq : (4294967295 - a) / 2 ^ (b % 32) ≤ 4294967295 - a := Nat.div_le_self _ _
  generalize hx : (4294967295 - a) / 2 ^ (b % 32) = x at hq ⊢
  rw [zi_neT (a := 4294967295 - x) (by omega) (by omega)]
  have e : (a : Int) - 4294967296 = Int.negSucc (4294967295 - a) := by
    rw [Int.negSucc_eq]; omega
  rw [e]
  show Int.negSucc ((4294967295 - a) >>> (b % 32)) = _
  rw [Nat.shiftRight_eq_div_pow, hx, Int.negSucc_eq]
  omega
theorem zi_shrP {a b : Nat} (h1 : a < 2147483648) (hb : b < 4294967296) : nI a >>> (nI b &&& 31) = nI (a / 2 ^ (b % 32)) := by
  rw [zi_cnt b hb]
  exact pk_shrN (n := a) (by omega) _ _ (zi_smod _ (Nat.mod_lt _ (by decide)))
theorem zl_cnt (b : Nat) (hb : b < 4294967296) : (nI b).toInt64 &&& 63 = (nI (b % 64)).toInt64 &&& 63 := by
  apply wb_inj
  have e : ∀ x : Int32, x.toInt64 &&& 63 = (x &&& 63).toInt64 := by
    intro x
    apply wb_inj
    rw [Int64.toBitVec_and, Int32.toBitVec_toInt64, Int32.toBitVec_toInt64, Int32.toBitVec_and]
    apply BitVec.eq_of_getLsbD_eq
    intro i hi
    rw [BitVec.getLsbD_and, BitVec.getLsbD_signExtend, BitVec.getLsbD_signExtend]
    by_cases q : i < 32
    · simp only [q, if_true, hi, decide_true, Bool.true_and, BitVec.getLsbD_and]
      have : ∀ j, j < 32 → (63 : Int64).toBitVec.getLsbD j = (63 : Int32).toBitVec.getLsbD j := by decide
      rw [this i q]
    · simp only [q, if_false, hi, decide_true, Bool.true_and]
      have h1 : (63 : Int64).toBitVec.getLsbD i = false := by
        have : ∀ j, j < 64 → 32 ≤ j → (63 : Int64).toBitVec.getLsbD j = false := by decide
        exact this i hi (by omega)
      rw [h1, Bool.and_false]
      have h2 : (x.toBitVec &&& (63 : Int32).toBitVec).msb = false := by
        rw [BitVec.msb_and]
        have : (63 : Int32).toBitVec.msb = false := by decide
        rw [this, Bool.and_false]
      rw [h2]
  rw [e, e]
  have h1 : nI b &&& 63 = nI (b % 64) &&& 63 := by
    have a1 : nI b &&& 63 = nI (b % 64) := pk_andN (n := b) (by omega) (m := 63) 6 (by decide)
    have a2 : nI (b % 64) &&& 63 = nI (b % 64 % 64) := pk_andN (n := b % 64) (by omega) (m := 63) 6 (by decide)
    rw [a1, a2, Nat.mod_mod]
  rw [h1]
theorem zl_shl {a b : Nat} (hb : b < 4294967296) : lN a <<< ((nI b).toInt64 &&& 63) = lN (a * 2 ^ (b % 64)) := by
  rw [zl_cnt b hb]
  exact wb_shl a (Nat.mod_lt _ (by decide))
theorem zl_ushr {a b : Nat} (ha : a < 18446744073709551616) (hb : b < 4294967296) : ((lN a).toUInt64 >>> ((nI b).toInt64.toUInt64 &&& Int64.toUInt64 63)).toInt64 = lN (a / 2 ^ (b % 64)) := by
  have e : (nI b).toInt64.toUInt64 &&& Int64.toUInt64 63 = (nI (b % 64)).toInt64.toUInt64 &&& Int64.toUInt64 63 := by
    have h1 : ((nI b).toInt64 &&& 63).toUInt64 = ((nI (b % 64)).toInt64 &&& 63).toUInt64 := by rw [zl_cnt b hb]
    exact h1
  rw [e]
  exact wb_shr (by omega) (Nat.mod_lt _ (by decide))
theorem zl_sm : ∀ k, k < 64 → (((nI k).toInt64 &&& 63).toBitVec.smod 64).toNat = k := by decide +kernel
theorem zl_shr (a s : Int64) (k : Nat) (hs : (s.toBitVec.smod 64).toNat = k) : (a >>> s).toInt = a.toInt >>> k := by
  show (a.toBitVec.sshiftRight (s.toBitVec.smod 64).toNat).toInt = _
  rw [hs, BitVec.toInt_sshiftRight]
  rfl
theorem zl_neT {a : Nat} (h1 : 9223372036854775808 ≤ a) (h2 : a < 18446744073709551616) : (lN a).toInt = (a : Int) - 18446744073709551616 := by
  have c := BitVec.toInt_eq_toNat_cond (lN a).toBitVec
  rw [wb_tn (by omega)] at c
  show (lN a).toBitVec.toInt = _
  rw [c]
  split <;> omega
theorem zl_shrN {a b : Nat} (h1 : 9223372036854775808 ≤ a) (h2 : a < 18446744073709551616) (hb : b < 4294967296) : lN a >>> ((nI b).toInt64 &&& 63) = lN (18446744073709551615 - (18446744073709551615 - a) / 2 ^ (b % 64)) := by
  rw [zl_cnt b hb]
  apply Int64.toInt_inj.mp
  rw [zl_shr _ _ (b % 64) (zl_sm _ (Nat.mod_lt _ (by decide))), zl_neT h1 h2]
  have hq : (18446744073709551615 - a) / 2 ^ (b % 64) ≤ 18446744073709551615 - a := Nat.div_le_self _ _
  generalize hx : (18446744073709551615 - a) / 2 ^ (b % 64) = x at hq ⊢
  rw [zl_neT (a := 18446744073709551615 - x) (by omega) (by omega)]
  have e : (a : Int) - 18446744073709551616 = Int.negSucc (18446744073709551615 - a) := by
    rw [Int.negSucc_eq]; omega
  rw [e]
  show Int.negSucc ((18446744073709551615 - a) >>> (b % 64)) = _
  rw [Nat.shiftRight_eq_div_pow, hx, Int.negSucc_eq]
  omega
theorem zl_shrP {a b : Nat} (h1 : a < 9223372036854775808) (hb : b < 4294967296) : lN a >>> ((nI b).toInt64 &&& 63) = lN (a / 2 ^ (b % 64)) := by
  rw [zl_cnt b hb]
  apply Int64.toInt_inj.mp
  rw [zl_shr _ _ (b % 64) (zl_sm _ (Nat.mod_lt _ (by decide))), pk_lT (by omega)]
  have hq : a / 2 ^ (b % 64) ≤ a := Nat.div_le_self _ _
  generalize hx : a / 2 ^ (b % 64) = x at hq ⊢
  rw [pk_lT (by omega)]
  show ((a : Nat) : Int) >>> (b % 64) = _
  rw [← hx]
  show (((a >>> (b % 64)) : Nat) : Int) = _
  rw [Nat.shiftRight_eq_div_pow]
/-- an int as a long, and back -/
theorem zi_i2l {a : Nat} (ha : a < 4294967296) : (nI a).toInt64 = lN (if a < 2147483648 then a else a + 18446744069414584320) := by
  by_cases q : a < 2147483648
  · rw [if_pos q]; exact nI_l (by omega)
  · rw [if_neg q]
    apply Int64.toInt_inj.mp
    rw [zl_neT (by omega) (by omega)]
    have : (nI a).toInt64.toInt = (nI a).toInt := Int32.toInt_toInt64 _
    rw [this, zi_neT (by omega) ha]
    omega
theorem zl_l2i (a : Nat) : (lN a).toInt32 = nI a := lN_i a
theorem zi_i2b {a : Nat} (ha : a < 4294967296) : (nI a).toInt8.toInt32 = nI (if a % 256 < 128 then a % 256 else a % 256 + 4294967040) := by
  have h1 : nI a &&& 255 = nI (a % 256) := pk_andN (n := a) (by omega) (m := 255) 8 (by decide)
  have h2 : (nI a).toInt8.toInt32 = (nI (a % 256)).toInt8.toInt32 := by
    have e : ∀ x : Int32, x.toInt8 = (x &&& 255).toInt8 := by
      intro x
      apply Int8.toBitVec_inj.mp
      rw [Int32.toBitVec_toInt8, Int32.toBitVec_toInt8, Int32.toBitVec_and]
      apply BitVec.eq_of_getLsbD_eq
      intro i hi
      rw [BitVec.getLsbD_signExtend, BitVec.getLsbD_signExtend]
      have h32 : i < 32 := by omega
      simp only [h32, if_true, BitVec.getLsbD_and]
      have : ∀ j, j < 8 → (255 : Int32).toBitVec.getLsbD j = true := by decide
      rw [this i hi, Bool.and_true]
    rw [e (nI a), h1]
  rw [h2]
  have : ∀ k, k < 256 → (nI k).toInt8.toInt32 = nI (if k < 128 then k else k + 4294967040) := by decide +kernel
  exact this _ (Nat.mod_lt _ (by decide))
theorem zi_i2c {a : Nat} (ha : a < 4294967296) : ((nI a).toUInt32 % 65536).toInt32 = nI (a % 65536) := by
  have := pk_char (nI a)
  rw [pk_tn (by omega)] at this
  exact this
