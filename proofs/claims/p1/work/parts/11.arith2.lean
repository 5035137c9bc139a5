section Arith2
variable {Pre : zgl → zctx → Prop} {m pc nx : Nat} {md : zMD}
/-- on two ints, two longs, a long and an int -/
def zopI (g : Int32 → Int32 → Int32) (C : Int32 → Prop) : Value → Value → Value → Prop := fun X Y Z => ∃ a b, X = .int a ∧ Y = .int b ∧ C b ∧ Z = .int (g a b)
def zopL (g : Int64 → Int64 → Int64) (C : Int64 → Prop) : Value → Value → Value → Prop := fun X Y Z => ∃ a b, X = .long a ∧ Y = .long b ∧ C b ∧ Z = .long (g a b)
def zopS (g : Int64 → Int32 → Int64) : Value → Value → Value → Prop := fun X Y Z => ∃ a b, X = .long a ∧ Y = .int b ∧ Z = .long (g a b)
theorem zBk {f : Nat → Nat → (Nat → zR) → zR} {g : Int32 → Int32 → Int32} {C : Int32 → Prop} (hf : ∀ (a b : Nat) (k : Nat → zR) (o : zo), f (16 * a) (16 * b) k = some o → ∃ q, k q = some o ∧ (a < 4294967296 → b < 4294967296 → ∃ r, r < 4294967296 ∧ q = 16 * r ∧ C (nI b) ∧ g (nI a) (nI b) = nI r)) : zB1 0 0 f (zopI g C) := by
  intro x y k o h1 h2 h
  obtain ⟨a, rfl⟩ : ∃ a, x = 16 * a := ⟨x / 16, by omega⟩
  obtain ⟨b, rfl⟩ : ∃ a, y = 16 * a := ⟨y / 16, by omega⟩
  obtain ⟨q, k1, k2⟩ := hf a b k o h
  refine ⟨q, k1, fun E ad X Y hG r1 r2 => ?_⟩
  obtain ⟨a', e1, ha, rfl⟩ := zn0 h1 r1
  obtain ⟨b', e2, hb, rfl⟩ := zn0 h2 r2
  obtain rfl : a = a' := by omega
  obtain rfl : b = b' := by omega
  obtain ⟨r, w1, rfl, w2, w3⟩ := k2 ha hb
  exact ⟨.int (nI r), zn0' w1, _, _, rfl, rfl, w2, by rw [w3]⟩
theorem zBkl {f : Nat → Nat → (Nat → zR) → zR} {g : Int64 → Int64 → Int64} {C : Int64 → Prop} (hf : ∀ (a b : Nat) (k : Nat → zR) (o : zo), f (16 * a + 2) (16 * b + 2) k = some o → ∃ q, k q = some o ∧ (a < 18446744073709551616 → b < 18446744073709551616 → ∃ r, r < 18446744073709551616 ∧ q = 16 * r + 2 ∧ C (lN b) ∧ g (lN a) (lN b) = lN r)) : zB1 2 2 f (zopL g C) := by
  intro x y k o h1 h2 h
  obtain ⟨a, rfl⟩ : ∃ a, x = 16 * a + 2 := ⟨x / 16, by omega⟩
  obtain ⟨b, rfl⟩ : ∃ a, y = 16 * a + 2 := ⟨y / 16, by omega⟩
  obtain ⟨q, k1, k2⟩ := hf a b k o h
  refine ⟨q, k1, fun E ad X Y hG r1 r2 => ?_⟩
  obtain ⟨a', e1, ha, rfl⟩ := zn2 h1 r1
  obtain ⟨b', e2, hb, rfl⟩ := zn2 h2 r2
  obtain rfl : a = a' := by omega
  obtain rfl : b = b' := by omega
  obtain ⟨r, w1, rfl, w2, w3⟩ := k2 ha hb
  exact ⟨.long (lN r), zn2' w1, _, _, rfl, rfl, w2, by rw [w3]⟩
theorem zBks {f : Nat → Nat → (Nat → zR) → zR} {g : Int64 → Int32 → Int64} (hf : ∀ (a b : Nat) (k : Nat → zR) (o : zo), f (16 * a + 2) (16 * b) k = some o → ∃ q, k q = some o ∧ (a < 18446744073709551616 → b < 4294967296 → ∃ r, r < 18446744073709551616 ∧ q = 16 * r + 2 ∧ g (lN a) (nI b) = lN r)) : zB1 2 0 f (zopS g) := by
  intro x y k o h1 h2 h
  obtain ⟨a, rfl⟩ : ∃ a, x = 16 * a + 2 := ⟨x / 16, by omega⟩
  obtain ⟨b, rfl⟩ : ∃ a, y = 16 * a := ⟨y / 16, by omega⟩
  obtain ⟨q, k1, k2⟩ := hf a b k o h
  refine ⟨q, k1, fun E ad X Y hG r1 r2 => ?_⟩
  obtain ⟨a', e1, ha, rfl⟩ := zn2 h1 r1
  obtain ⟨b', e2, hb, rfl⟩ := zn0 h2 r2
  obtain rfl : a = a' := by omega
  obtain rfl : b = b' := by omega
  obtain ⟨r, w1, rfl, w3⟩ := k2 ha hb
  exact ⟨.long (lN r), zn2' w1, _, _, rfl, rfl, by rw [w3]⟩
theorem zst_ic {g : Int32 → Int32 → Int32} {C : Int32 → Prop} (hm : zM m = some md) (row : ∀ (p : Program) (l : Launch) (e : Env) (R : Room) (s : State) (mid : MethodId) (args : Array Value) (below : List Frame) (meth : Method) (c : Code) (H : Heap) (locs : List Loc) (cells slots : Nat) (Q : State → Prop) (lsA : Array Slot) (a b : Int32) (rest : List Value), C b → p.tables.exec = Jvm.exec → c.code = md.2.1 → W p l e R s mid args below meth c H locs cells slots Q (F0 mid nx lsA (.int (g a b) :: rest)) → W p l e R s mid args below meth c H locs cells slots Q (F0 mid pc lsA (.int b :: .int a :: rest))) :
    ∀ X Y Z rest, zopI g C X Y Z → zStep m pc (Y :: X :: rest) nx (Z :: rest) := by
  rintro X Y Z rest ⟨a, b, rfl, rfl, hC, rfl⟩ p l e R s mid args below meth c H locs cells slots Q lsA hF k
  obtain ⟨hx, hb, -⟩ := hF.of hm
  exact row p l e R s mid args below meth c H locs cells slots Q lsA a b rest hC hx hb k
theorem zst_lc {g : Int64 → Int64 → Int64} {C : Int64 → Prop} (hm : zM m = some md) (row : ∀ (p : Program) (l : Launch) (e : Env) (R : Room) (s : State) (mid : MethodId) (args : Array Value) (below : List Frame) (meth : Method) (c : Code) (H : Heap) (locs : List Loc) (cells slots : Nat) (Q : State → Prop) (lsA : Array Slot) (a b : Int64) (rest : List Value), C b → p.tables.exec = Jvm.exec → c.code = md.2.1 → W p l e R s mid args below meth c H locs cells slots Q (F0 mid nx lsA (.long (g a b) :: rest)) → W p l e R s mid args below meth c H locs cells slots Q (F0 mid pc lsA (.long b :: .long a :: rest))) :
    ∀ X Y Z rest, zopL g C X Y Z → zStep m pc (Y :: X :: rest) nx (Z :: rest) := by
  rintro X Y Z rest ⟨a, b, rfl, rfl, hC, rfl⟩ p l e R s mid args below meth c H locs cells slots Q lsA hF k
  obtain ⟨hx, hb, -⟩ := hF.of hm
  exact row p l e R s mid args below meth c H locs cells slots Q lsA a b rest hC hx hb k
theorem zst_s {g : Int64 → Int32 → Int64} (hm : zM m = some md) (row : ∀ (p : Program) (l : Launch) (e : Env) (R : Room) (s : State) (mid : MethodId) (args : Array Value) (below : List Frame) (meth : Method) (c : Code) (H : Heap) (locs : List Loc) (cells slots : Nat) (Q : State → Prop) (lsA : Array Slot) (a : Int64) (b : Int32) (rest : List Value), p.tables.exec = Jvm.exec → c.code = md.2.1 → W p l e R s mid args below meth c H locs cells slots Q (F0 mid nx lsA (.long (g a b) :: rest)) → W p l e R s mid args below meth c H locs cells slots Q (F0 mid pc lsA (.int b :: .long a :: rest))) :
    ∀ X Y Z rest, zopS g X Y Z → zStep m pc (Y :: X :: rest) nx (Z :: rest) := by
  rintro X Y Z rest ⟨a, b, rfl, rfl, rfl⟩ p l e R s mid args below meth c H locs cells slots Q lsA hF k
  obtain ⟨hx, hb, -⟩ := hF.of hm
  exact row p l e R s mid args below meth c H locs cells slots Q lsA a b rest hx hb k
-- numbers
theorem zsr4 (x s : Nat) : Nat.shiftRight x (Nat.add s 4) = x / 16 / 2 ^ s := by
  rw [zsrp, Nat.div_div_eq_div_mul]
  congr 1
  rw [Nat.add_eq, Nat.pow_add, Nat.mul_comm]
theorem zsr4' (x s : Nat) : Nat.shiftRight x (Nat.add 4 s) = x / 16 / 2 ^ s := by
  rw [← zsr4]; congr 1; exact Nat.add_comm _ _
theorem zsl4 (x : Nat) : Nat.shiftLeft x 4 = 16 * x := by
  have e : Nat.shiftLeft x 4 = x <<< 4 := rfl
  rw [e, Nat.shiftLeft_eq]; omega
theorem zslp (x s : Nat) : Nat.shiftLeft x s = x * 2 ^ s := Nat.shiftLeft_eq x s
theorem zq16 (a : Nat) : 16 * a / 16 = a := by omega
theorem zq16' (a : Nat) : (16 * a + 2) / 16 = a := by omega
theorem zcn (b : Nat) : Nat.mod (Nat.shiftRight (16 * b) 4) 32 = b % 32 := by rw [zmd, zs4, zq16]
theorem zcnl (b : Nat) : Nat.mod (Nat.shiftRight (16 * b) 4) 64 = b % 64 := by rw [zmd, zs4, zq16]
theorem zishlF (a b : Nat) : Nat.mod (Nat.shiftLeft (16 * a) (Nat.mod (Nat.shiftRight (16 * b) 4) 32)) 68719476736 = 16 * (a * 2 ^ (b % 32) % 4294967296) := by
  rw [zcn, zslp, zmd, Nat.mul_assoc]
  generalize a * 2 ^ (b % 32) = c
  omega
theorem zdlt {a n : Nat} (s : Nat) (h : a < n) : a / 2 ^ s < n := Nat.lt_of_le_of_lt (Nat.div_le_self _ _) h
-- two ints
theorem zshlI_s : zB2 zshlI (fun X Y Z => ∃ a b : Int32, X = .int a ∧ Y = .int b ∧ Z = .int (a <<< (b &&& 31))) := by
  intro x y k o h
  obtain ⟨b1, h⟩ := zB h
  obtain ⟨a, b, hb0, h, h1⟩ := zrng_s h
  obtain ⟨b2, h⟩ := zB h
  obtain ⟨b3, h⟩ := zB h
  obtain ⟨q, h9, hq⟩ := zivl_t h
  have b1 : x = 16 * 1 := zbeq b1
  have b2 : 2147483648 ≤ a := zble b2
  have b3 : b ≤ 2147483678 := zble b3
  subst b1
  refine ⟨_, h9, fun E ad X Y hG r1 r2 => ?_⟩
  obtain ⟨c, e, hc, rfl⟩ := zn0 (by omega) r1
  obtain rfl : c = 1 := by omega
  obtain ⟨i, rfl, p1, p2⟩ := h1 E ad Y hG r2
  obtain ⟨q1, q2⟩ := zbi_of (i := i) (by omega)
  have e1 : ∀ n, Nat.shiftLeft 1 n = 2 ^ n := fun n => by
    have := Nat.shiftLeft_eq 1 n
    rw [Nat.one_mul] at this
    exact this
  rw [e1, e1] at hq
  simp only [Nat.add_eq, Nat.sub_eq] at hq
  have m1 : 2 ^ (a - 2147483648) ≤ 2 ^ (zbi i - 2147483648) := Nat.pow_le_pow_right (by decide) (by omega)
  have m2 : 2 ^ (zbi i - 2147483648) ≤ 2 ^ (b - 2147483648) := Nat.pow_le_pow_right (by decide) (by omega)
  have m3 : 2 ^ (b - 2147483648) ≤ 2 ^ 30 := Nat.pow_le_pow_right (by decide) (by omega)
  have e2 : nI 1 <<< (i &&& 31) = nI (2 ^ (zbi i - 2147483648)) := by
    rw [q1]
    rw [zi_shl (by omega) (by omega), Nat.one_mul, ← q1, Nat.mod_eq_of_lt (by omega)]
  have e3 : zbi (nI (2 ^ (zbi i - 2147483648))) = 2 ^ (zbi i - 2147483648) + 2147483648 := zbi_n (by omega)
  exact ⟨.int (nI (2 ^ (zbi i - 2147483648))), hq E ad _ (by omega) (by omega) (by omega), nI 1, i, rfl, rfl, congrArg Value.int e2.symm⟩
theorem ok_ishl (hm : zM m = some md) (hd : decode md.2.1 pc = .ok (.ishl, 1)) (hn : pc + 1 = nx) : zOK Pre m pc (s_ishl nx) := by
  subst hn
  exact ok_zbin _ (zst_i (g := fun a b => a <<< (b &&& 31)) hm fun p l e R s mid args below meth c H locs cells slots Q lsA a b rest hx hb k => lv_ishl hx hb hd k) (zBi' fun a b ha hb => ⟨a * 2 ^ (b % 32) % 4294967296, Nat.mod_lt _ (by decide), zishlF a b, by rw [zi_mod, ← zi_shl ha hb]⟩) zshlI_s
theorem zsub0 : (4294967295 : Nat) < 4294967296 := by decide
theorem ok_ishr (hm : zM m = some md) (hd : decode md.2.1 pc = .ok (.ishr, 1)) (hn : pc + 1 = nx) : zOK Pre m pc (s_ishr nx) := by
  subst hn
  refine ok_zbin (zopI (fun a b => a >>> (b &&& 31)) fun _ => True) (zst_ic hm fun p l e R s mid args below meth c H locs cells slots Q lsA a b rest _ hx hb k => lv_ishr hx hb hd k) (zBk fun a b k o h => ?_) fun x y k o h => ?_
  · rcases zBc h with ⟨b1, h⟩ | ⟨b1, h⟩
    · rw [zf_eq, zsl4, zsr4, zcn] at h
      have b1 : 34359738368 ≤ 16 * a := zble b1
      refine ⟨_, h, fun ha hb => ⟨4294967295 - (4294967295 - a) / 2 ^ (b % 32), Nat.lt_of_le_of_lt (Nat.sub_le _ _) zsub0, ?_, trivial, zi_shrN (by omega) ha hb⟩⟩
      have e : (68719476720 - 16 * a) / 16 = 4294967295 - a := by omega
      simp only [Nat.sub_eq, e]
      have := zdlt (b % 32) (show 4294967295 - a < 4294967296 by omega)
      omega
    · rw [zf_eq, zsl4, zsr4, zcn, zq16] at h
      have b1 : 16 * a < 34359738368 := znble b1
      exact ⟨_, h, fun ha hb => ⟨a / 2 ^ (b % 32), zdlt _ ha, rfl, trivial, zi_shrP (by omega) hb⟩⟩
  · obtain ⟨q, k1, k2⟩ := zshrI_s (g := fun a b => a >>> (b &&& 31)) (fun a b ha hb => zi_shrP ha hb) x y k o h
    refine ⟨q, k1, fun E ad X Y hG r1 r2 => ?_⟩
    obtain ⟨Z, w1, a, b, w2, w3, w4⟩ := k2 E ad X Y hG r1 r2
    exact ⟨Z, w1, a, b, w2, w3, trivial, w4⟩
theorem ok_iushr (hm : zM m = some md) (hd : decode md.2.1 pc = .ok (.iushr, 1)) (hn : pc + 1 = nx) : zOK Pre m pc (s_iushr nx) := by
  subst hn
  exact ok_zbin _ (zst_i (g := fun a b => (a.toUInt32 >>> (b.toUInt32 &&& Int32.toUInt32 31)).toInt32) hm fun p l e R s mid args below meth c H locs cells slots Q lsA a b rest hx hb k => lv_iushr hx hb hd rfl k) (zBi' fun a b ha hb => ⟨a / 2 ^ (b % 32), zdlt _ ha, by rw [zsl4, zsr4', zcn, zq16], zi_ushr ha hb⟩) (zshrI_s (g := fun a b => (a.toUInt32 >>> (b.toUInt32 &&& Int32.toUInt32 31)).toInt32) fun a b ha hb => zi_ushr (by omega) hb)
-- division
theorem zdv_s {w x y : Nat} {k : zR} {o : zo} (h : zdv w x y k = some o) : x < w ∧ y < w ∧ y / 16 ≠ 0 ∧ k = some o := by
  obtain ⟨b1, h⟩ := zB h
  obtain ⟨b2, h⟩ := zB h
  obtain ⟨b3, h⟩ := zB' h
  have b3 := znbeq b3
  rw [zs4] at b3
  exact ⟨zble b1, zble b2, b3, h⟩
theorem zdivF (a b : Nat) : Nat.shiftLeft (Nat.div (16 * a) (16 * b)) 4 = 16 * (a / b) := by
  rw [zsl4]
  have e : Nat.div (16 * a) (16 * b) = 16 * a / (16 * b) := rfl
  rw [e, Nat.mul_div_mul_left _ _ (by decide)]
theorem zremF (a b : Nat) : Nat.mod (16 * a) (16 * b) = 16 * (a % b) := by
  rw [zmd, Nat.mul_mod_mul_left]
theorem zdivI_s : zB2 zdivI (zopI (fun a b => a / b) fun b => ¬ b = 0) := by
  intro x y k o h
  obtain ⟨b1, h⟩ := zB h
  obtain ⟨-, b2, b3, h⟩ := zdv_s h
  obtain ⟨a, b, hb0, h, h1⟩ := zrng_s h
  obtain ⟨b4, h⟩ := zB h
  obtain ⟨q, h, hq⟩ := zivl_t h
  have b4 : 2147483648 ≤ a := zble b4
  have b2 : y < 34359738368 := b2
  refine ⟨_, h, fun E ad X Y hG r1 r2 => ?_⟩
  obtain ⟨i, rfl, p1, p2⟩ := h1 E ad X hG r1
  obtain ⟨d, rfl, hd, rfl⟩ := zn0 (zkq b1) r2
  obtain ⟨q1, q2⟩ := zbi_of (i := i) (by omega)
  have hd0 : 0 < d := by omega
  have hd1 : d < 2 ^ 31 := by omega
  rw [zs4, zq16] at hq
  have w1 : (a - 2147483648) / d ≤ (zbi i - 2147483648) / d := Nat.div_le_div_right (by omega)
  have w2 : (zbi i - 2147483648) / d ≤ (b - 2147483648) / d := Nat.div_le_div_right (by omega)
  have w3 : (zbi i - 2147483648) / d ≤ zbi i - 2147483648 := Nat.div_le_self _ _
  have w4 : (b - 2147483648) / d ≤ b - 2147483648 := Nat.div_le_self _ _
  have e : zbi (i / nI d) = (zbi i - 2147483648) / d + 2147483648 := by
    rw [q1, pk_div q2 hd0 hd1, zbi_n (by omega), ← q1]
  have ed : ∀ n k : Nat, Nat.div n k = n / k := fun _ _ => rfl
  simp only [Nat.add_eq, Nat.sub_eq, ed] at hq
  exact ⟨.int (i / nI d), hq E ad _ (by omega) (by omega) (by omega), i, nI d, rfl, rfl, nI_ne0 hd0 hd1, rfl⟩
theorem zremI_s : zB2 zremI (zopI (fun a b => a - a / b * b) fun b => ¬ b = 0) := by
  intro x y k o h
  obtain ⟨b1, h⟩ := zB h
  obtain ⟨-, b2, b3, h⟩ := zdv_s h
  obtain ⟨a, b, hb0, h, h1⟩ := zrng_s h
  obtain ⟨b4, h⟩ := zB h
  obtain ⟨q, h, hq⟩ := zivl_t h
  have b4 : 2147483648 ≤ a := zble b4
  have b2 : y < 34359738368 := b2
  refine ⟨_, h, fun E ad X Y hG r1 r2 => ?_⟩
  obtain ⟨i, rfl, p1, p2⟩ := h1 E ad X hG r1
  obtain ⟨d, rfl, hd, rfl⟩ := zn0 (zkq b1) r2
  obtain ⟨q1, q2⟩ := zbi_of (i := i) (by omega)
  have hd0 : 0 < d := by omega
  have hd1 : d < 2 ^ 31 := by omega
  rw [zs4, zq16] at hq
  have w1 : (zbi i - 2147483648) % d < d := Nat.mod_lt _ hd0
  have e : zbi (i - i / nI d * nI d) = (zbi i - 2147483648) % d + 2147483648 := by
    rw [q1, pk_rem q2 hd0 hd1, zbi_n (by omega), ← q1]
  simp only [Nat.add_eq] at hq
  exact ⟨.int (i - i / nI d * nI d), hq E ad _ (by omega) (by omega) (by omega), i, nI d, rfl, rfl, nI_ne0 hd0 hd1, rfl⟩
theorem ok_idiv (hm : zM m = some md) (hd : decode md.2.1 pc = .ok (.idiv, 1)) (hn : pc + 1 = nx) : zOK Pre m pc (s_idiv nx) := by
  subst hn
  refine ok_zbin (zopI (fun a b => a / b) fun b => ¬ b = 0) (zst_ic hm fun p l e R s mid args below meth c H locs cells slots Q lsA a b rest hne hx hb k => lv_idiv hx hb hd hne k) (zBk fun a b k o h => ?_) zdivI_s
  obtain ⟨b1, b2, b3, h⟩ := zdv_s h
  rw [zf_eq, zdivF] at h
  have b1 : 16 * a < 34359738368 := b1
  have b2 : 16 * b < 34359738368 := b2
  rw [zq16] at b3
  exact ⟨_, h, fun ha hb => ⟨a / b, Nat.lt_of_le_of_lt (Nat.div_le_self _ _) ha, rfl, nI_ne0 (by omega) (by omega), pk_div (by omega) (by omega) (by omega)⟩⟩
theorem ok_irem (hm : zM m = some md) (hd : decode md.2.1 pc = .ok (.irem, 1)) (hn : pc + 1 = nx) : zOK Pre m pc (s_irem nx) := by
  subst hn
  refine ok_zbin (zopI (fun a b => a - a / b * b) fun b => ¬ b = 0) (zst_ic hm fun p l e R s mid args below meth c H locs cells slots Q lsA a b rest hne hx hb k => lv_irem hx hb hd hne k) (zBk fun a b k o h => ?_) zremI_s
  obtain ⟨b1, b2, b3, h⟩ := zdv_s h
  rw [zf_eq, zremF] at h
  have b1 : 16 * a < 34359738368 := b1
  have b2 : 16 * b < 34359738368 := b2
  rw [zq16] at b3
  exact ⟨_, h, fun ha hb => ⟨a % b, Nat.lt_of_le_of_lt (Nat.mod_le _ _) ha, rfl, nI_ne0 (by omega) (by omega), pk_rem (by omega) (by omega) (by omega)⟩⟩
end Arith2
