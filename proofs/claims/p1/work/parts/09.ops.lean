section Ops
variable {Pre : zgl → zctx → Prop} {m pc nx : Nat} {md : zMD}
def zB1 (kx ky : Nat) (f : Nat → Nat → (Nat → zR) → zR) (op : Value → Value → Value → Prop) : Prop := ∀ (x y : Nat) (k : Nat → zR) (o : zo), x % 16 = kx → y % 16 = ky → f x y k = some o → ∃ q, k q = some o ∧ ∀ (E : zen) (ad : zam) (X Y : Value), zEok E → zrel E ad x X → zrel E ad y Y → ∃ Z, zrel E ad q Z ∧ op X Y Z
def zB2 (f : Nat → Nat → (Nat → zR) → zR) (op : Value → Value → Value → Prop) : Prop := ∀ (x y : Nat) (k : Nat → zR) (o : zo), f x y k = some o → ∃ q, k q = some o ∧ ∀ (E : zen) (ad : zam) (X Y : Value), zEok E → zrel E ad x X → zrel E ad y Y → ∃ Z, zrel E ad q Z ∧ op X Y Z
def zU1 (kx : Nat) (f : Nat → (Nat → zR) → zR) (op : Value → Value → Prop) : Prop := ∀ (x : Nat) (k : Nat → zR) (o : zo), x % 16 = kx → f x k = some o → ∃ q, k q = some o ∧ ∀ (E : zen) (ad : zam) (X : Value), zEok E → zrel E ad x X → ∃ Z, zrel E ad q Z ∧ op X Z
def zU2 (f : Nat → (Nat → zR) → zR) (op : Value → Value → Prop) : Prop := ∀ (x : Nat) (k : Nat → zR) (o : zo), f x k = some o → ∃ q, k q = some o ∧ ∀ (E : zen) (ad : zam) (X : Value), zEok E → zrel E ad x X → ∃ Z, zrel E ad q Z ∧ op X Z
theorem zkq {x k : Nat} (h : Nat.beq (Nat.land x 15) k = true) : x % 16 = k := (zl15 x).symm.trans (Nat.eq_of_beq_eq_true h)
theorem ok_zbin {kx ky : Nat} {f f2 : Nat → Nat → (Nat → zR) → zR} (op : Value → Value → Value → Prop) (hrow : ∀ X Y Z rest, op X Y Z → zStep m pc (Y :: X :: rest) nx (Z :: rest)) (h1 : zB1 kx ky f op) (h2 : zB2 f2 op) : zOK Pre m pc (zbin kx ky f f2 nx) := by
  refine zOK.pure fun G ctx ih dep ls st h o hG hN hP ho => ?_
  obtain ⟨y, t, rfl, ho⟩ := zLs ho
  obtain ⟨x, t, rfl, ho⟩ := zLs ho
  have key : ∃ q, ih m nx dep ls (q :: t) h = some o ∧ ∀ (E : zen) (ad : zam) (X Y : Value), zEok E → zrel E ad x X → zrel E ad y Y → ∃ Z, zrel E ad q Z ∧ op X Y Z := by
    rcases zBc ho with ⟨b1, ho⟩ | ⟨-, ho⟩
    · rcases zBc ho with ⟨b2, ho⟩ | ⟨-, ho⟩
      · exact h1 x y _ o (zkq b1) (zkq b2) ho
      · exact h2 x y _ o ho
    · exact h2 x y _ o ho
  obtain ⟨q, k1, k2⟩ := key
  refine ⟨nx, q :: t, k1, fun ad vals hv => ?_⟩
  obtain ⟨Y, vals, rfl, r1, hv⟩ := hv.inv
  obtain ⟨X, vals, rfl, r2, hv⟩ := hv.inv
  obtain ⟨Z, r3, r4⟩ := k2 _ _ X Y hG r2 r1
  exact ⟨Z :: vals, zall.cons r3 hv, hrow X Y Z vals r4⟩
theorem ok_zuna {kx : Nat} {f f2 : Nat → (Nat → zR) → zR} (op : Value → Value → Prop) (hrow : ∀ X Z rest, op X Z → zStep m pc (X :: rest) nx (Z :: rest)) (h1 : zU1 kx f op) (h2 : zU2 f2 op) : zOK Pre m pc (zuna kx f f2 nx) := by
  refine zOK.pure fun G ctx ih dep ls st h o hG hN hP ho => ?_
  obtain ⟨x, t, rfl, ho⟩ := zLs ho
  have key : ∃ q, ih m nx dep ls (q :: t) h = some o ∧ ∀ (E : zen) (ad : zam) (X : Value), zEok E → zrel E ad x X → ∃ Z, zrel E ad q Z ∧ op X Z := by
    rcases zBc ho with ⟨b1, ho⟩ | ⟨-, ho⟩
    · exact h1 x _ o (zkq b1) ho
    · exact h2 x _ o ho
  obtain ⟨q, k1, k2⟩ := key
  refine ⟨nx, q :: t, k1, fun ad vals hv => ?_⟩
  obtain ⟨X, vals, rfl, r2, hv⟩ := hv.inv
  obtain ⟨Z, r3, r4⟩ := k2 _ _ X hG r2
  exact ⟨Z :: vals, zall.cons r3 hv, hrow X Z vals r4⟩
theorem zB2_no {op : Value → Value → Value → Prop} : zB2 zno op := fun x y k o h => by cases h
theorem zU2_no {op : Value → Value → Prop} : zU2 zno1 op := fun x k o h => by cases h
-- numbers of ints
theorem zn0 {E : zen} {ad : zam} {x : Nat} {X : Value} (h : x % 16 = 0) (r : zrel E ad x X) : ∃ a, x = 16 * a ∧ a < 4294967296 ∧ X = .int (nI a) := by
  obtain ⟨r1, r2⟩ := (zr0 h X).mp r
  exact ⟨x / 16, by omega, r1, r2⟩
theorem zn0' {E : zen} {ad : zam} {a : Nat} (h : a < 4294967296) : zrel E ad (16 * a) (.int (nI a)) := by
  refine (zr0 (by omega) _).mpr ⟨by omega, ?_⟩
  rw [show 16 * a / 16 = a by omega]; rfl
theorem zn2 {E : zen} {ad : zam} {x : Nat} {X : Value} (h : x % 16 = 2) (r : zrel E ad x X) : ∃ a, x = 16 * a + 2 ∧ a < 18446744073709551616 ∧ X = .long (lN a) := by
  obtain ⟨r1, r2⟩ := (zr2 h X).mp r
  exact ⟨x / 16, by omega, r1, r2⟩
theorem zn2' {E : zen} {ad : zam} {a : Nat} (h : a < 18446744073709551616) : zrel E ad (16 * a + 2) (.long (lN a)) := by
  refine (zr2 (by omega) _).mpr ⟨by omega, ?_⟩
  rw [show (16 * a + 2) / 16 = a by omega]; rfl
/-- an operation on two ints, by its numbers -/
theorem zBi {f : Nat → Nat → (Nat → zR) → zR} {g : Int32 → Int32 → Int32} (hf : ∀ (a b : Nat) (k : Nat → zR) (o : zo), a < 4294967296 → b < 4294967296 → f (16 * a) (16 * b) k = some o → ∃ r, r < 4294967296 ∧ k (16 * r) = some o ∧ g (nI a) (nI b) = nI r) (hx : ∀ (x y : Nat) (k : Nat → zR) (o : zo), x % 16 = 0 → y % 16 = 0 → f x y k = some o → ∃ q, k q = some o ∧ (x / 16 < 4294967296 → y / 16 < 4294967296 → ∃ r, r < 4294967296 ∧ q = 16 * r ∧ g (nI (x / 16)) (nI (y / 16)) = nI r)) : zB1 0 0 f (fun X Y Z => ∃ a b, X = .int a ∧ Y = .int b ∧ Z = .int (g a b)) := by
  intro x y k o h1 h2 h
  obtain ⟨q, k1, k2⟩ := hx x y k o h1 h2 h
  refine ⟨q, k1, fun E ad X Y hG r1 r2 => ?_⟩
  obtain ⟨z1, z2⟩ := (zr0 h1 X).mp r1
  obtain ⟨z3, z4⟩ := (zr0 h2 Y).mp r2
  obtain ⟨r, w1, w2, w3⟩ := k2 z1 z3
  subst w2
  exact ⟨.int (nI r), zn0' w1, _, _, z2, z4, by rw [← w3]; rfl⟩
theorem zBi' {F : Nat → Nat → Nat} {g : Int32 → Int32 → Int32} (hF : ∀ a b, a < 4294967296 → b < 4294967296 → ∃ r, r < 4294967296 ∧ F (16 * a) (16 * b) = 16 * r ∧ g (nI a) (nI b) = nI r) : zB1 0 0 (fun x y => zf (F x y)) (fun X Y Z => ∃ a b, X = .int a ∧ Y = .int b ∧ Z = .int (g a b)) := by
  intro x y k o h1 h2 h
  have h : k (F x y) = some o := h
  refine ⟨_, h, fun E ad X Y hG r1 r2 => ?_⟩
  obtain ⟨a, rfl, ha, rfl⟩ := zn0 h1 r1
  obtain ⟨b, rfl, hb, rfl⟩ := zn0 h2 r2
  obtain ⟨r, w1, w2, w3⟩ := hF a b ha hb
  rw [w2]
  exact ⟨.int (nI r), zn0' w1, _, _, rfl, rfl, by rw [w3]⟩
theorem zBl' {F : Nat → Nat → Nat} {g : Int64 → Int64 → Int64} (hF : ∀ a b, a < 18446744073709551616 → b < 18446744073709551616 → ∃ r, r < 18446744073709551616 ∧ F (16 * a + 2) (16 * b + 2) = 16 * r + 2 ∧ g (lN a) (lN b) = lN r) : zB1 2 2 (fun x y => zf (F x y)) (fun X Y Z => ∃ a b, X = .long a ∧ Y = .long b ∧ Z = .long (g a b)) := by
  intro x y k o h1 h2 h
  have h : k (F x y) = some o := h
  refine ⟨_, h, fun E ad X Y hG r1 r2 => ?_⟩
  obtain ⟨a, rfl, ha, rfl⟩ := zn2 h1 r1
  obtain ⟨b, rfl, hb, rfl⟩ := zn2 h2 r2
  obtain ⟨r, w1, w2, w3⟩ := hF a b ha hb
  rw [w2]
  exact ⟨.long (lN r), zn2' w1, _, _, rfl, rfl, by rw [w3]⟩
theorem zst_i {g : Int32 → Int32 → Int32} (hm : zM m = some md) (row : ∀ (p : Program) (l : Launch) (e : Env) (R : Room) (s : State) (mid : MethodId) (args : Array Value) (below : List Frame) (meth : Method) (c : Code) (H : Heap) (locs : List Loc) (cells slots : Nat) (Q : State → Prop) (lsA : Array Slot) (a b : Int32) (rest : List Value), p.tables.exec = Jvm.exec → c.code = md.2.1 → W p l e R s mid args below meth c H locs cells slots Q (F0 mid nx lsA (.int (g a b) :: rest)) → W p l e R s mid args below meth c H locs cells slots Q (F0 mid pc lsA (.int b :: .int a :: rest))) :
    ∀ X Y Z rest, (∃ a b, X = .int a ∧ Y = .int b ∧ Z = .int (g a b)) → zStep m pc (Y :: X :: rest) nx (Z :: rest) := by
  rintro X Y Z rest ⟨a, b, rfl, rfl, rfl⟩ p l e R s mid args below meth c H locs cells slots Q lsA hF k
  obtain ⟨hx, hb, -⟩ := hF.of hm
  exact row p l e R s mid args below meth c H locs cells slots Q lsA a b rest hx hb k
theorem zst_l {g : Int64 → Int64 → Int64} (hm : zM m = some md) (row : ∀ (p : Program) (l : Launch) (e : Env) (R : Room) (s : State) (mid : MethodId) (args : Array Value) (below : List Frame) (meth : Method) (c : Code) (H : Heap) (locs : List Loc) (cells slots : Nat) (Q : State → Prop) (lsA : Array Slot) (a b : Int64) (rest : List Value), p.tables.exec = Jvm.exec → c.code = md.2.1 → W p l e R s mid args below meth c H locs cells slots Q (F0 mid nx lsA (.long (g a b) :: rest)) → W p l e R s mid args below meth c H locs cells slots Q (F0 mid pc lsA (.long b :: .long a :: rest))) :
    ∀ X Y Z rest, (∃ a b, X = .long a ∧ Y = .long b ∧ Z = .long (g a b)) → zStep m pc (Y :: X :: rest) nx (Z :: rest) := by
  rintro X Y Z rest ⟨a, b, rfl, rfl, rfl⟩ p l e R s mid args below meth c H locs cells slots Q lsA hF k
  obtain ⟨hx, hb, -⟩ := hF.of hm
  exact row p l e R s mid args below meth c H locs cells slots Q lsA a b rest hx hb k
-- intervals
theorem zbi_nI {a : Nat} (h : a < 4294967296) : zbi (nI a) = (a + 2147483648) % 4294967296 := by
  unfold zbi
  by_cases q : a < 2147483648
  · rw [nI_toInt (by omega)]; omega
  · rw [zi_neT (by omega) h]; omega
theorem zbi_toInt (i : Int32) : i.toInt = (zbi i : Int) - 2147483648 := by
  have := i.le_toInt; have := i.toInt_lt
  unfold zbi; omega
theorem zbi_lt (i : Int32) : zbi i < 4294967296 := by
  have := i.le_toInt; have := i.toInt_lt
  unfold zbi; omega
theorem zbi_inj {i j : Int32} (h : zbi i = zbi j) : i = j := by
  apply Int32.toInt_inj.mp
  rw [zbi_toInt, zbi_toInt, h]
theorem zrb_e (a : Nat) : zrb (16 * a) = (a + 2147483648) % 4294967296 := by
  have h : zrb (16 * a) = (34359738368 + 16 * a) % 68719476736 / 16 := zs4 _
  rw [h]; omega
theorem zlo_e (v : Nat) : zlo v = v / 16 / 4294967296 := by
  have h : zlo v = v / 68719476736 := Nat.shiftRight_eq_div_pow v 36
  rw [h]; omega
theorem zhi_e (v : Nat) : zhi v = v / 16 % 4294967296 := by
  have h : zhi v = Nat.shiftRight v 4 % 4294967296 := Nat.and_two_pow_sub_one_eq_mod (Nat.shiftRight v 4) 32
  rw [h, zs4]
theorem zmk_e (lo hi : Nat) : zmk lo hi = 16 * (lo * 4294967296 + hi) + 3 := by
  have h : zmk lo hi = (lo * 4294967296 + hi) * 16 + 3 := rfl
  rw [h]; omega
/-- what zrng tells: an int between them -/
theorem zrng_s {v : Nat} {k : Nat → Nat → zR} {o : zo} (h : zrng v k = some o) : ∃ lo hi, hi < 4294967296 ∧ k lo hi = some o ∧ ∀ (E : zen) (ad : zam) (X : Value), zEok E → zrel E ad v X → ∃ i, X = .int i ∧ lo ≤ zbi i ∧ zbi i ≤ hi := by
  rcases zBc h with ⟨b1, h⟩ | ⟨-, h⟩
  · rw [zf_eq] at h
    refine ⟨_, _, ?_, h, fun E ad X hG r => ?_⟩
    · have e : v = 16 * (v / 16) := by have q : v % 16 = 0 := zkq b1; omega
      rw [e, zrb_e]; exact Nat.mod_lt _ (by decide)
    obtain ⟨a, rfl, ha, rfl⟩ := zn0 (zkq b1) r
    refine ⟨nI a, rfl, ?_⟩
    rw [zbi_nI ha, zrb_e]
    exact ⟨Nat.le_refl _, Nat.le_refl _⟩
  · rcases zBc h with ⟨b1, h⟩ | ⟨-, h⟩
    · refine ⟨_, _, (by decide : (2147483655 : Nat) < 4294967296), h, fun E ad X hG r => ?_⟩
      obtain ⟨r0, r⟩ := (zr1 (zkq b1) X).mp r
      obtain ⟨z1, z2⟩ := hG.1 _ r0
      have z3 := zbi_toInt (E.1 (v / 16))
      have q1 : 2147483648 ≤ zbi (E.1 (v / 16)) := by omega
      have q2 : zbi (E.1 (v / 16)) ≤ 2147483655 := by omega
      exact ⟨_, r, q1, q2⟩
    · rcases zBc h with ⟨b1, h⟩ | ⟨-, h⟩
      · refine ⟨_, _, ?_, h, fun E ad X hG r => ?_⟩
        · rw [zhi_e]; exact Nat.mod_lt _ (by decide)
        obtain ⟨i, r1, r2, r3⟩ := (zr3 (zkq b1) X).mp r
        rw [zlo_e, zhi_e]
        exact ⟨i, r1, r2, r3⟩
      · obtain ⟨b1, h⟩ := zB h
        have hx : ∀ (E : zen) (ad : zam) (X : Value), zrel E ad v X → ∃ n, n < 4294967296 ∧ X = .int (nI n) ∧ zlo v ≤ n ∧ n ≤ Nat.lor (zlo v) (zhi v) := fun E ad X r => by
          obtain ⟨n, h1, h2, h3⟩ := (zr15 (zkq b1) X).mp r
          rw [← zlo_e, ← zhi_e] at h3
          exact ⟨n, h1, h2, zbt_lo h3, zbt_hi h3.2⟩
        rcases zBc h with ⟨b2, h⟩ | ⟨-, h⟩
        · have b2 : Nat.lor (zlo v) (zhi v) ≤ 2147483647 := Nat.le_of_ble_eq_true b2
          refine ⟨_, _, ?_, h, fun E ad X hG r => ?_⟩
          · simp only [Nat.add_eq]; omega
          · obtain ⟨n, n1, rfl, n2, n3⟩ := hx E ad X r
            refine ⟨nI n, rfl, ?_⟩
            rw [zbi_nI n1]
            simp only [Nat.add_eq]
            omega
        · obtain ⟨b2, h⟩ := zB h
          obtain ⟨b3, h⟩ := zB h
          have b2 : 2147483648 ≤ zlo v := Nat.le_of_ble_eq_true b2
          have b3 : Nat.lor (zlo v) (zhi v) ≤ 4294967295 := Nat.le_of_ble_eq_true b3
          refine ⟨_, _, ?_, h, fun E ad X hG r => ?_⟩
          · simp only [Nat.sub_eq]; omega
          · obtain ⟨n, n1, rfl, n2, n3⟩ := hx E ad X r
            refine ⟨nI n, rfl, ?_⟩
            rw [zbi_nI n1]
            simp only [Nat.sub_eq]
            omega
theorem zn3' {E : zen} {ad : zam} {lo hi : Nat} {i : Int32} (hhi : hi < 4294967296) (h1 : lo ≤ zbi i) (h2 : zbi i ≤ hi) : zrel E ad (16 * (lo * 4294967296 + hi) + 3) (.int i) := by
  refine (zr3 (by omega) _).mpr ⟨i, rfl, ?_⟩
  unfold ziv
  rw [show (16 * (lo * 4294967296 + hi) + 3) / 16 = lo * 4294967296 + hi by omega]
  omega
theorem zivl_t {lo hi : Nat} {k : Nat → zR} {o : zo} (h : zivl lo hi k = some o) : ∃ q, k q = some o ∧ ∀ (E : zen) (ad : zam) (i : Int32), hi < 4294967296 → lo ≤ zbi i → zbi i ≤ hi → zrel E ad q (.int i) := by
  rcases zBc h with ⟨b, h9⟩ | ⟨-, h9⟩
  · have b : lo = hi := Nat.eq_of_beq_eq_true b
    subst b
    rw [zf_eq] at h9
    have e : Nat.mul (Nat.mod (Nat.add 2147483648 lo) 4294967296) 16 = 16 * ((2147483648 + lo) % 4294967296) := Nat.mul_comm _ _
    rw [e] at h9
    refine ⟨_, h9, fun E ad i h1 h2 h3 => ?_⟩
    have hl : (2147483648 + lo) % 4294967296 < 4294967296 := Nat.mod_lt _ (by decide)
    have hi : i = nI ((2147483648 + lo) % 4294967296) := zbi_inj (by rw [zbi_nI hl]; omega)
    rw [hi]
    exact zn0' hl
  · rw [zf_eq, zmk_e] at h9
    exact ⟨_, h9, fun E ad i h1 h2 h3 => zn3' h1 h2 h3⟩
end Ops
