section Unary
variable {Pre : zgl → zctx → Prop} {m pc nx : Nat} {md : zMD}
def zop1 (g : Int32 → Int32) : Value → Value → Prop := fun X Z => ∃ a, X = .int a ∧ Z = .int (g a)
def zopIL (g : Int32 → Int64) : Value → Value → Prop := fun X Z => ∃ a, X = .int a ∧ Z = .long (g a)
def zopLI (g : Int64 → Int32) : Value → Value → Prop := fun X Z => ∃ a, X = .long a ∧ Z = .int (g a)
def zopLL (g : Int64 → Int64) : Value → Value → Prop := fun X Z => ∃ a, X = .long a ∧ Z = .long (g a)
theorem zU1i {f : Nat → (Nat → zR) → zR} {g : Int32 → Int32} (hf : ∀ (a : Nat) (k : Nat → zR) (o : zo), f (16 * a) k = some o → ∃ q, k q = some o ∧ (a < 4294967296 → ∃ r, r < 4294967296 ∧ q = 16 * r ∧ g (nI a) = nI r)) : zU1 0 f (zop1 g) := by
  intro x k o h1 h
  obtain ⟨a, rfl⟩ : ∃ a, x = 16 * a := ⟨x / 16, by omega⟩
  obtain ⟨q, k1, k2⟩ := hf a k o h
  refine ⟨q, k1, fun E ad X hG r1 => ?_⟩
  obtain ⟨a', e1, ha, rfl⟩ := zn0 h1 r1
  obtain rfl : a = a' := by omega
  obtain ⟨r, w1, rfl, w3⟩ := k2 ha
  exact ⟨.int (nI r), zn0' w1, _, rfl, by rw [w3]⟩
theorem zU1il {f : Nat → (Nat → zR) → zR} {g : Int32 → Int64} (hf : ∀ (a : Nat) (k : Nat → zR) (o : zo), f (16 * a) k = some o → ∃ q, k q = some o ∧ (a < 4294967296 → ∃ r, r < 18446744073709551616 ∧ q = 16 * r + 2 ∧ g (nI a) = lN r)) : zU1 0 f (zopIL g) := by
  intro x k o h1 h
  obtain ⟨a, rfl⟩ : ∃ a, x = 16 * a := ⟨x / 16, by omega⟩
  obtain ⟨q, k1, k2⟩ := hf a k o h
  refine ⟨q, k1, fun E ad X hG r1 => ?_⟩
  obtain ⟨a', e1, ha, rfl⟩ := zn0 h1 r1
  obtain rfl : a = a' := by omega
  obtain ⟨r, w1, rfl, w3⟩ := k2 ha
  exact ⟨.long (lN r), zn2' w1, _, rfl, by rw [w3]⟩
theorem zU1li {f : Nat → (Nat → zR) → zR} {g : Int64 → Int32} (hf : ∀ (a : Nat) (k : Nat → zR) (o : zo), f (16 * a + 2) k = some o → ∃ q, k q = some o ∧ (a < 18446744073709551616 → ∃ r, r < 4294967296 ∧ q = 16 * r ∧ g (lN a) = nI r)) : zU1 2 f (zopLI g) := by
  intro x k o h1 h
  obtain ⟨a, rfl⟩ : ∃ a, x = 16 * a + 2 := ⟨x / 16, by omega⟩
  obtain ⟨q, k1, k2⟩ := hf a k o h
  refine ⟨q, k1, fun E ad X hG r1 => ?_⟩
  obtain ⟨a', e1, ha, rfl⟩ := zn2 h1 r1
  obtain rfl : a = a' := by omega
  obtain ⟨r, w1, rfl, w3⟩ := k2 ha
  exact ⟨.int (nI r), zn0' w1, _, rfl, by rw [w3]⟩
theorem zU1ll {f : Nat → (Nat → zR) → zR} {g : Int64 → Int64} (hf : ∀ (a : Nat) (k : Nat → zR) (o : zo), f (16 * a + 2) k = some o → ∃ q, k q = some o ∧ (a < 18446744073709551616 → ∃ r, r < 18446744073709551616 ∧ q = 16 * r + 2 ∧ g (lN a) = lN r)) : zU1 2 f (zopLL g) := by
  intro x k o h1 h
  obtain ⟨a, rfl⟩ : ∃ a, x = 16 * a + 2 := ⟨x / 16, by omega⟩
  obtain ⟨q, k1, k2⟩ := hf a k o h
  refine ⟨q, k1, fun E ad X hG r1 => ?_⟩
  obtain ⟨a', e1, ha, rfl⟩ := zn2 h1 r1
  obtain rfl : a = a' := by omega
  obtain ⟨r, w1, rfl, w3⟩ := k2 ha
  exact ⟨.long (lN r), zn2' w1, _, rfl, by rw [w3]⟩
theorem zst_u {op : Value → Value → Prop} {A B : Type} {vA : A → Value} {vB : B → Value} {g : A → B} (hop : ∀ X Z, op X Z → ∃ a, X = vA a ∧ Z = vB (g a)) (hm : zM m = some md) (row : ∀ (p : Program) (l : Launch) (e : Env) (R : Room) (s : State) (mid : MethodId) (args : Array Value) (below : List Frame) (meth : Method) (c : Code) (H : Heap) (locs : List Loc) (cells slots : Nat) (Q : State → Prop) (lsA : Array Slot) (a : A) (rest : List Value), p.tables.exec = Jvm.exec → c.code = md.2.1 → W p l e R s mid args below meth c H locs cells slots Q (F0 mid nx lsA (vB (g a) :: rest)) → W p l e R s mid args below meth c H locs cells slots Q (F0 mid pc lsA (vA a :: rest))) :
    ∀ X Z rest, op X Z → zStep m pc (X :: rest) nx (Z :: rest) := by
  intro X Z rest ho p l e R s mid args below meth c H locs cells slots Q lsA hF k
  obtain ⟨a, rfl, rfl⟩ := hop X Z ho
  obtain ⟨hx, hb, -⟩ := hF.of hm
  exact row p l e R s mid args below meth c H locs cells slots Q lsA a rest hx hb k
theorem ok_ineg (hm : zM m = some md) (hd : decode md.2.1 pc = .ok (.ineg, 1)) (hn : pc + 1 = nx) : zOK Pre m pc (s_ineg nx) := by
  subst hn
  refine ok_zuna (zop1 fun a => -a) (zst_u (vA := .int) (vB := .int) (g := fun a => -a) (fun X Z h => h) hm fun p l e R s mid args below meth c H locs cells slots Q lsA a rest hx hb k => lv_ineg hx hb hd k) (zU1i fun a k o h => ?_) fun x k o h => ?_
  · simp only [zf_eq, zmd, Nat.sub_eq] at h
    refine ⟨_, h, fun ha => ⟨(4294967296 - a) % 4294967296, Nat.mod_lt _ (by decide), by omega, by rw [zi_mod, zi_neg (by omega)]⟩⟩
  · obtain ⟨q, k1, k2⟩ := zsubI_s 0 x k o h
    refine ⟨q, k1, fun E ad X hG r1 => ?_⟩
    obtain ⟨Z, w1, a, b, w2, w3, w4⟩ := k2 E ad (.int (nI 0)) X hG (zn0' (a := 0) (by decide)) r1
    cases w2
    refine ⟨Z, w1, b, w3, ?_⟩
    rw [w4, nI_0, Int32.zero_sub]
theorem zlnegF (a : Nat) (ha : a < 18446744073709551616) : Nat.add (Nat.mod (Nat.sub 295147905179352825858 (16 * a + 2)) 295147905179352825856) 2 = 16 * ((18446744073709551616 - a) % 18446744073709551616) + 2 := by
  rw [zmd, Nat.add_eq, Nat.sub_eq]
  omega
theorem zlnegT_s : zU2 zlnegT (zopLL fun a => -a) := by
  intro x k o h
  obtain ⟨b1, h⟩ := zB h
  obtain ⟨q, h9, hq⟩ := zml_s h
  obtain ⟨b2, h⟩ := zB h
  refine ⟨q, h9, fun E ad X hG r1 => ?_⟩
  obtain ⟨a, ha, rfl, h1⟩ := zn14 (zkq b1) r1
  have hm : zwm x < 18446744073709551616 := by rw [zwm_e]; exact Nat.mod_lt _ (by decide)
  have hv : zwv x < 18446744073709551616 := Nat.lt_of_le_of_lt (zbt_lo h1) ha
  have hs : zwv x + zwm x < 18446744073709551616 := by
    rw [zdis _ _ h1.1]; exact Nat.or_lt_two_pow (n := 64) hv hm
  have k1 := zb_neg h1 ha (by omega) rfl (zbeq b2) hm
  exact ⟨.long (lN ((18446744073709551616 - a) % 18446744073709551616)), hq E ad _ (Nat.mod_lt _ (by decide)) k1, _, rfl, congrArg Value.long ((zl_mod _).trans (zl_neg (by omega)).symm)⟩
theorem ok_lneg (hm : zM m = some md) (hd : decode md.2.1 pc = .ok (.lneg, 1)) (hn : pc + 1 = nx) : zOK Pre m pc (s_lneg nx) := by
  subst hn
  refine ok_zuna (zopLL fun a => -a) (zst_u (vA := .long) (vB := .long) (g := fun a => -a) (fun X Z h => h) hm fun p l e R s mid args below meth c H locs cells slots Q lsA a rest hx hb k => lv_lneg hx hb hd k) (zU1ll fun a k o h => ?_) zlnegT_s
  rw [zf_eq] at h
  exact ⟨_, h, fun ha => ⟨_, Nat.mod_lt _ (by decide), zlnegF a ha, by rw [zl_mod, zl_neg (by omega)]⟩⟩
theorem zi2lF (a : Nat) : 295147905110633349122 + 16 * a = 16 * (18446744069414584320 + a) + 2 := by omega
theorem zi2lB {a : Nat} (h1 : 2147483648 ≤ a) (ha : a < 4294967296) : 18446744069414584320 + a < 18446744073709551616 := by omega
theorem zi2lC {a : Nat} (h1 : 2147483648 ≤ a) (ha : a < 4294967296) : (nI a).toInt64 = lN (18446744069414584320 + a) := by
  rw [zi_i2l ha, if_neg (by omega), Nat.add_comm]
theorem zi2lD {a : Nat} (h1 : a < 2147483648) : (nI a).toInt64 = lN a := by
  rw [zi_i2l (by omega), if_pos h1]
theorem zi2lO_s : zU2 zi2lO (zopIL fun a => a.toInt64) := by
  intro x k o h
  obtain ⟨a, b, hb, h, h1⟩ := zrng_s h
  rw [zf_eq, zmk_e] at h
  refine ⟨_, h, fun E ad X hG r => ?_⟩
  obtain ⟨i, rfl, p1, p2⟩ := h1 E ad X hG r
  refine ⟨.long i.toInt64, ?_, i, rfl, rfl⟩
  have e : Nat.add (16 * (a * 4294967296 + b) + 3) 8 = 16 * (a * 4294967296 + b) + 11 := rfl
  rw [e]
  refine (zr11 (by omega) _).mpr ⟨i, rfl, ?_⟩
  unfold ziv
  rw [show (16 * (a * 4294967296 + b) + 11) / 16 = a * 4294967296 + b by omega]
  omega
theorem zadU {a : Nat} (ha : a < 4294967296) (i : Nat) : (18446744069414584320 + a).testBit i = (a.testBit i || (18446744069414584320 : Nat).testBit i) := by
  have h : 18446744069414584320 &&& a = 0 := Nat.eq_of_testBit_eq fun i => by
    rw [Nat.testBit_and, Nat.zero_testBit]
    by_cases q : i < 32
    · have : (18446744069414584320 : Nat).testBit i = false := (by decide +kernel : ∀ i, i < 32 → (18446744069414584320 : Nat).testBit i = false) i q
      rw [this]; rfl
    · have : a.testBit i = false := Nat.testBit_lt_two_pow (Nat.lt_of_lt_of_le ha (Nat.pow_le_pow_right (n := 2) (by decide) (Nat.le_of_not_lt q)))
      rw [this, Bool.and_false]
  rw [zdis _ _ h, Nat.testBit_or, Bool.or_comm]
theorem zi2lI_s : zU2 zi2lI (zopIL fun a => a.toInt64) := by
  intro x k o h
  rcases zBc h with ⟨b1, h⟩ | ⟨-, h⟩
  · rcases zBc h with ⟨b2, h⟩ | ⟨b2, h⟩
    · obtain ⟨q, h9, hq⟩ := zml_s h
      have b2 : 2147483648 ≤ zlo x := zble b2
      refine ⟨q, h9, fun E ad X hG r1 => ?_⟩
      obtain ⟨a, ha, rfl, h1⟩ := zn15 (zkq b1) r1
      have h2 := zbt_lo h1
      refine ⟨.long (lN (18446744069414584320 + a)), hq E ad _ (by omega) (fun i hi => ?_), _, rfl, congrArg Value.long (zi2lC (by omega) ha).symm⟩
      have e : Nat.add 18446744069414584320 (zlo x) = 18446744069414584320 + zlo x := rfl
      rw [e, zadU ha, zadU (by omega), h1.2 i hi]
    · have b2 : zlo x < 2147483648 := znble b2
      rcases zBc h with ⟨b3, h⟩ | ⟨b3, h⟩
      · obtain ⟨q, h9, hq⟩ := zml_s h
        refine ⟨q, h9, fun E ad X hG r1 => ?_⟩
        obtain ⟨a, ha, rfl, h1⟩ := zn15 (zkq b1) r1
        have hm : zhi x < 4294967296 := by rw [zhi_e]; exact Nat.mod_lt _ (by decide)
        have key : ∀ i, (Nat.add 18446744069414584320 (zhi x)).testBit i = false → a.testBit i = (zlo x).testBit i ∧ (18446744069414584320 : Nat).testBit i = false := fun i hi => by
          have e : Nat.add 18446744069414584320 (zhi x) = 18446744069414584320 + zhi x := rfl
          rw [e, zadU hm, Bool.or_eq_false_iff] at hi
          exact ⟨h1.2 i hi.1, hi.2⟩
        by_cases z : a < 2147483648
        · exact ⟨.long (lN a), hq E ad _ (by omega) (fun i hi => (key i hi).1), _, rfl, congrArg Value.long (zi2lD z).symm⟩
        · refine ⟨.long (lN (18446744069414584320 + a)), hq E ad _ (by omega) (fun i hi => ?_), _, rfl, congrArg Value.long (zi2lC (by omega) ha).symm⟩
          obtain ⟨k1, k2⟩ := key i hi
          rw [zadU ha, k1, k2, Bool.or_false]
      · have b3 : zhi x < 2147483648 := znble b3
        obtain ⟨q, h9, hq⟩ := zml_s h
        refine ⟨q, h9, fun E ad X hG r1 => ?_⟩
        obtain ⟨a, ha, rfl, h1⟩ := zn15 (zkq b1) r1
        have h2 := zbt_hi h1.2
        have h3 : zlo x ||| zhi x < 2147483648 := Nat.or_lt_two_pow (n := 31) b2 b3
        exact ⟨.long (lN a), hq E ad _ (by omega) h1.2, _, rfl, congrArg Value.long (zi2lD (by omega)).symm⟩
  · exact zi2lO_s x k o h
theorem ok_i2l (hm : zM m = some md) (hd : decode md.2.1 pc = .ok (.i2l, 1)) (hn : pc + 1 = nx) : zOK Pre m pc (s_i2l nx) := by
  subst hn
  refine ok_zuna (zopIL fun a => a.toInt64) (zst_u (vA := .int) (vB := .long) (g := fun a => a.toInt64) (fun X Z h => h) hm fun p l e R s mid args below meth c H locs cells slots Q lsA a rest hx hb k => lv_i2l hx hb hd rfl k) (zU1il fun a k o h => ?_) zi2lI_s
  rcases zBc h with ⟨b1, h⟩ | ⟨b1, h⟩
  · rw [zf_eq] at h
    have b1 : 34359738368 ≤ 16 * a := zble b1
    have b1 : 2147483648 ≤ a := by omega
    exact ⟨_, h, fun ha => ⟨18446744069414584320 + a, zi2lB b1 ha, zi2lF a, zi2lC b1 ha⟩⟩
  · rw [zf_eq] at h
    have b1 : 16 * a < 34359738368 := znble b1
    have b1 : a < 2147483648 := by omega
    exact ⟨_, h, fun ha => ⟨a, by omega, rfl, zi2lD b1⟩⟩
theorem zl2iT_s : zU2 zl2iT (zopLI fun a => a.toInt32) := by
  intro x k o h
  obtain ⟨b1, h⟩ := zB h
  obtain ⟨q, h9, hq⟩ := zmi_s h
  refine ⟨q, h9, fun E ad X hG r1 => ?_⟩
  obtain ⟨a, ha, rfl, h1⟩ := zn14 (zkq b1) r1
  exact ⟨.int (nI (a % 4294967296)), hq E ad _ (Nat.mod_lt _ (by decide)) (zb_mod 32 h1.2), _, rfl, congrArg Value.int ((zi_mod _).trans (zl_l2i a).symm)⟩
theorem ok_l2i (hm : zM m = some md) (hd : decode md.2.1 pc = .ok (.l2i, 1)) (hn : pc + 1 = nx) : zOK Pre m pc (s_l2i nx) := by
  subst hn
  refine ok_zuna (zopLI fun a => a.toInt32) (zst_u (vA := .long) (vB := .int) (g := fun a => a.toInt32) (fun X Z h => h) hm fun p l e R s mid args below meth c H locs cells slots Q lsA a rest hx hb k => lv_l2i hx hb hd rfl k) (zU1li fun a k o h => ?_) zl2iT_s
  simp only [zf_eq, zmd, Nat.sub_eq] at h
  exact ⟨_, h, fun ha => ⟨a % 4294967296, Nat.mod_lt _ (by decide), by omega, by rw [zi_mod, zl_l2i]⟩⟩
theorem zi2bI_s : zU2 zi2bI (zop1 fun a => a.toInt8.toInt32) := by
  intro x k o h
  obtain ⟨a, b, hb0, h, h1⟩ := zrng_s h
  obtain ⟨b2, h⟩ := zB h
  have b2 : 2147483648 ≤ a := zble b2
  rcases zBc h with ⟨b3, h⟩ | ⟨-, h⟩
  · have b3 : b ≤ 2147483775 := zble b3
    obtain ⟨q, h, hq⟩ := zivl_t h
    refine ⟨_, h, fun E ad X hG r => ?_⟩
    obtain ⟨i, rfl, p1, p2⟩ := h1 E ad X hG r
    obtain ⟨q1, q2⟩ := zbi_of (i := i) (by omega)
    have e : i.toInt8.toInt32 = i := by
      rw [q1, zi_i2b (by omega), if_pos (by omega)]
      exact congrArg nI (Nat.mod_eq_of_lt (by omega))
    exact ⟨.int i, hq E ad i hb0 p1 p2, i, rfl, congrArg Value.int e.symm⟩
  · obtain ⟨b3, h⟩ := zB h
    obtain ⟨b4, h⟩ := zB h
    have b3 : 2147483776 ≤ a := zble b3
    have b4 : b ≤ 2147483903 := zble b4
    obtain ⟨q, h, hq⟩ := zivl_t h
    refine ⟨_, h, fun E ad X hG r => ?_⟩
    obtain ⟨i, rfl, p1, p2⟩ := h1 E ad X hG r
    obtain ⟨q1, q2⟩ := zbi_of (i := i) (by omega)
    obtain ⟨n, hn⟩ : ∃ n, n = zbi i - 2147483648 := ⟨_, rfl⟩
    rw [← hn] at q1 q2
    have e : i.toInt8.toInt32 = nI (n + 4294967040) := by
      rw [q1, zi_i2b (by omega), if_neg (by omega)]
      exact congrArg (fun z => nI (z + 4294967040)) (Nat.mod_eq_of_lt (by omega))
    obtain ⟨w, hw⟩ : ∃ w, w = n + 4294967040 := ⟨_, rfl⟩
    rw [← hw] at e
    have e3 : zbi (nI w) = zbi i - 256 := by rw [zbi_nI (by omega)]; omega
    simp only [Nat.sub_eq] at hq
    exact ⟨.int (nI w), hq E ad _ (by omega) (by omega) (by omega), i, rfl, congrArg Value.int e.symm⟩
theorem ok_i2b (hm : zM m = some md) (hd : decode md.2.1 pc = .ok (.i2b, 1)) (hn : pc + 1 = nx) : zOK Pre m pc (s_i2b nx) := by
  subst hn
  refine ok_zuna (zop1 fun a => a.toInt8.toInt32) (zst_u (vA := .int) (vB := .int) (g := fun a => a.toInt8.toInt32) (fun X Z h => h) hm fun p l e R s mid args below meth c H locs cells slots Q lsA a rest hx hb k => lv_i2b hx hb hd rfl k) (zU1i fun a k o h => ?_) zi2bI_s
  rcases zBc h with ⟨b1, h⟩ | ⟨b1, h⟩
  · simp only [zf_eq, zmd, Nat.add_eq] at h
    have b1 : 2048 ≤ 16 * a % 4096 := zble b1
    refine ⟨_, h, fun ha => ⟨a % 256 + 4294967040, by omega, by omega, ?_⟩⟩
    rw [zi_i2b ha, if_neg (by omega)]
  · simp only [zf_eq, zmd] at h
    have b1 : 16 * a % 4096 < 2048 := znble b1
    refine ⟨_, h, fun ha => ⟨a % 256, by omega, by omega, ?_⟩⟩
    rw [zi_i2b ha, if_pos (by omega)]
theorem zcharN (i : Int32) : (i.toUInt32 % 65536).toInt32 = nI (i.toUInt32 % 65536).toNat ∧ (i.toUInt32 % 65536).toNat < 65536 := by
  have h2 : (i.toUInt32 % 65536).toNat < 65536 := by
    rw [UInt32.toNat_mod]
    exact Nat.mod_lt _ (by decide)
  refine ⟨?_, h2⟩
  apply Int32.toBitVec_inj.mp
  apply BitVec.eq_of_toNat_eq
  rw [pk_tn (by omega)]
  rfl
theorem zi2cI_s : zU2 zi2cI (zop1 fun i => (i.toUInt32 % 65536).toInt32) := by
  intro x k o h
  obtain ⟨b1, h⟩ := zB h
  rcases zBc h with ⟨b2, h⟩ | ⟨-, h⟩
  · simp only [zf_eq, Nat.mul_eq] at h
    have b2 := zbeq b2
    rw [zlo_e, zhi_e] at b2
    refine ⟨_, h, fun E ad X hG r => ?_⟩
    obtain ⟨i, rfl, p1, p2⟩ := (zr13 (zkq b1) X).mp r
    obtain ⟨c1, c2⟩ := zcharN i
    refine ⟨.int (i.toUInt32 % 65536).toInt32, ?_, i, rfl, rfl⟩
    rw [c1, zlo_e, show x / 16 / 4294967296 = (i.toUInt32 % 65536).toNat by omega, Nat.mul_comm]
    exact zn0' (by omega)
  · obtain ⟨b2, h⟩ := zB h
    obtain ⟨q, h, hq⟩ := zivl_t h
    have b2 : zhi x ≤ 65535 := zble b2
    rw [zhi_e] at b2
    refine ⟨_, h, fun E ad X hG r => ?_⟩
    obtain ⟨i, rfl, p1, p2⟩ := (zr13 (zkq b1) X).mp r
    obtain ⟨c1, c2⟩ := zcharN i
    refine ⟨.int (i.toUInt32 % 65536).toInt32, ?_, i, rfl, rfl⟩
    simp only [zlo_e, zhi_e, Nat.add_eq] at hq
    have e : zbi (i.toUInt32 % 65536).toInt32 = (i.toUInt32 % 65536).toNat + 2147483648 := by rw [c1, zbi_n (by omega)]
    exact hq E ad _ (by omega) (by omega) (by omega)
theorem ok_i2c (hm : zM m = some md) (hd : decode md.2.1 pc = .ok (.i2c, 1)) (hn : pc + 1 = nx) : zOK Pre m pc (s_i2c nx) := by
  subst hn
  refine ok_zuna (zop1 fun a => (a.toUInt32 % 65536).toInt32) (zst_u (vA := .int) (vB := .int) (g := fun a => (a.toUInt32 % 65536).toInt32) (fun X Z h => h) hm fun p l e R s mid args below meth c H locs cells slots Q lsA a rest hx hb k => lv_i2c hx hb hd rfl k) (zU1i fun a k o h => ?_) zi2cI_s
  simp only [zf_eq, zmd] at h
  exact ⟨_, h, fun ha => ⟨a % 65536, by omega, by omega, zi_i2c ha⟩⟩
theorem ok_i2d (hm : zM m = some md) (hd : decode md.2.1 pc = .ok (.i2d, 1)) (hn : pc + 1 = nx) : zOK Pre m pc (s_i2d nx) := by
  subst hn
  refine ok_zuna (fun X Z => X = .int (nI 0) ∧ Z = .double (FP.i2d (nI 0))) (fun X Z rest ho p l e R s mid args below meth c H locs cells slots Q lsA hF k => ?_) (fun x k o h1 h => ?_) zU2_no
  · obtain ⟨rfl, rfl⟩ := ho
    obtain ⟨hx, hb, -⟩ := hF.of hm
    exact lv_i2d hx hb hd k
  · obtain ⟨b1, h9⟩ := zB h
    have b1 : x = 16 * 0 := zbeq b1
    subst b1
    refine ⟨_, h9, fun E ad X hG r => ?_⟩
    obtain ⟨a, e, ha, rfl⟩ := zn0 h1 r
    obtain rfl : a = 0 := by omega
    refine ⟨.double (FP.i2d (nI 0)), ?_, rfl, rfl⟩
    have : FP.i2d (nI 0) = UInt64.ofNat 0 := by decide +kernel
    rw [this]
    exact zn7 (n := 0)
-- the stack
theorem ok_dup (hm : zM m = some md) (hd : decode md.2.1 pc = .ok (.dup, 1)) (hn : pc + 1 = nx) : zOK Pre m pc (s_dup nx) := by
  subst hn
  refine zOK.pure fun G ctx ih dep ls st h o hG hN hP ho => ?_
  obtain ⟨v, t, rfl, ho⟩ := zLs ho
  obtain ⟨c1, ho⟩ := zmask0 ho
  refine ⟨_, _, ho, fun ad vals hv => ?_⟩
  obtain ⟨X, vals, rfl, r1, hv⟩ := hv.inv
  refine ⟨X :: X :: vals, zall.cons r1 (zall.cons r1 hv), fun p l e R s mid args below meth c H locs cells slots Q lsA hF k => ?_⟩
  obtain ⟨hx, hb, -⟩ := hF.of hm
  exact lv_dup hx hb hd (zcat1 hG c1 r1) k
theorem ok_pop (hm : zM m = some md) (hd : decode md.2.1 pc = .ok (.pop, 1)) (hn : pc + 1 = nx) : zOK Pre m pc (s_pop nx) := by
  subst hn
  refine zOK.pure fun G ctx ih dep ls st h o hG hN hP ho => ?_
  obtain ⟨v, t, rfl, ho⟩ := zLs ho
  obtain ⟨c1, ho⟩ := zmask0 ho
  refine ⟨_, _, ho, fun ad vals hv => ?_⟩
  obtain ⟨X, vals, rfl, r1, hv⟩ := hv.inv
  refine ⟨vals, hv, fun p l e R s mid args below meth c H locs cells slots Q lsA hF k => ?_⟩
  obtain ⟨hx, hb, -⟩ := hF.of hm
  exact lv_pop hx hb hd (zcat1 hG c1 r1) k
theorem ok_dx1 (hm : zM m = some md) (hd : decode md.2.1 pc = .ok (.dup_x1, 1)) (hn : pc + 1 = nx) : zOK Pre m pc (s_dx1 nx) := by
  subst hn
  refine zOK.pure fun G ctx ih dep ls st h o hG hN hP ho => ?_
  obtain ⟨v, t, rfl, ho⟩ := zLs ho
  obtain ⟨w, t, rfl, ho⟩ := zLs ho
  obtain ⟨c1, ho⟩ := zmask0 ho
  obtain ⟨c2, ho⟩ := zmask0 ho
  refine ⟨_, _, ho, fun ad vals hv => ?_⟩
  obtain ⟨X, vals, rfl, r1, hv⟩ := hv.inv
  obtain ⟨Y, vals, rfl, r2, hv⟩ := hv.inv
  refine ⟨X :: Y :: X :: vals, zall.cons r1 (zall.cons r2 (zall.cons r1 hv)), fun p l e R s mid args below meth c H locs cells slots Q lsA hF k => ?_⟩
  obtain ⟨hx, hb, -⟩ := hF.of hm
  exact lv_dup_x1 hx hb hd (zcat1 hG c1 r1) (zcat1 hG c2 r2) k
theorem ok_dup2 (hm : zM m = some md) (hd : decode md.2.1 pc = .ok (.dup2, 1)) (hn : pc + 1 = nx) : zOK Pre m pc (s_dup2 nx) := by
  subst hn
  refine zOK.pure fun G ctx ih dep ls st h o hG hN hP ho => ?_
  obtain ⟨v, t, rfl, ho⟩ := zLs ho
  obtain ⟨c1, ho⟩ := zmask0 ho
  obtain ⟨w, t, rfl, ho⟩ := zLs ho
  obtain ⟨c2, ho⟩ := zmask0 ho
  refine ⟨_, _, ho, fun ad vals hv => ?_⟩
  obtain ⟨X, vals, rfl, r1, hv⟩ := hv.inv
  obtain ⟨Y, vals, rfl, r2, hv⟩ := hv.inv
  refine ⟨X :: Y :: X :: Y :: vals, zall.cons r1 (zall.cons r2 (zall.cons r1 (zall.cons r2 hv))), fun p l e R s mid args below meth c H locs cells slots Q lsA hF k => ?_⟩
  obtain ⟨hx, hb, -⟩ := hF.of hm
  exact lv_dup2_11 hx hb hd (zcat1 hG c1 r1) (zcat1 hG c2 r2) k
theorem ok_fconst0 (hm : zM m = some md) (hd : decode md.2.1 pc = .ok (.fconst 0, 1)) (hn : pc + 1 = nx) : zOK Pre m pc (s_k 8 nx) :=
  ok_s_k (X := .float FP.fconst0) (fun _ _ _ _ _ => (zr8 (v := 8) rfl _).mpr (congrArg Value.float (by decide +kernel))) fun vals p l e R s mid args below meth c H locs cells slots Q lsA hF k => by
    subst hn; obtain ⟨hx, hb, -⟩ := hF.of hm; exact lv_fconst0 hx hb hd k
theorem ok_null (hm : zM m = some md) (hd : decode md.2.1 pc = .ok (.aconst_null, 1)) (hn : pc + 1 = nx) : zOK Pre m pc (s_k 5 nx) :=
  ok_s_k (X := .null) (fun _ _ _ _ _ => (zr5 (v := 5) rfl _).mpr rfl) fun vals p l e R s mid args below meth c H locs cells slots Q lsA hF k => by
    subst hn; obtain ⟨hx, hb, -⟩ := hF.of hm; exact lv_null hx hb hd k
end Unary
