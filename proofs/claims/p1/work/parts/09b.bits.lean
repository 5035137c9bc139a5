section Bits
theorem zwv_e (v : Nat) : zwv v = v / 16 / 18446744073709551616 := by
  have h : zwv v = v / 295147905179352825856 := Nat.shiftRight_eq_div_pow v 68
  rw [h]; omega
theorem zwm_e (v : Nat) : zwm v = v / 16 % 18446744073709551616 := by
  have h : zwm v = Nat.shiftRight v 4 % 18446744073709551616 := Nat.and_two_pow_sub_one_eq_mod (Nat.shiftRight v 4) 64
  rw [h, zs4]
theorem zn15 {E : zen} {ad : zam} {x : Nat} {X : Value} (h : x % 16 = 15) (r : zrel E ad x X) : ∃ a, a < 4294967296 ∧ X = .int (nI a) ∧ zbt (zlo x) (zhi x) a := by
  obtain ⟨n, h1, h2, h3⟩ := (zr15 h X).mp r
  exact ⟨n, h1, h2, by rw [zlo_e, zhi_e]; exact h3⟩
theorem zn14 {E : zen} {ad : zam} {x : Nat} {X : Value} (h : x % 16 = 14) (r : zrel E ad x X) : ∃ a, a < 18446744073709551616 ∧ X = .long (lN a) ∧ zbt (zwv x) (zwm x) a := by
  obtain ⟨n, h1, h2, h3⟩ := (zr14 h X).mp r
  exact ⟨n, h1, h2, by rw [zwv_e, zwm_e]; exact h3⟩
theorem zbq0 {v x : Nat} (h : zbq v 0 x) : x = v := Nat.eq_of_testBit_eq fun i => h i (Nat.zero_testBit i)
theorem zbq_rf (v : Nat) : zbt v 0 v := ⟨Nat.and_zero v, fun _ _ => rfl⟩
theorem zmi_s {v m : Nat} {k : Nat → zR} {o : zo} (h : zmi v m k = some o) : ∃ q, k q = some o ∧ ∀ (E : zen) (ad : zam) (x : Nat), x < 4294967296 → zbq v m x → zrel E ad q (.int (nI x)) := by
  obtain ⟨b1, h⟩ := zB h
  obtain ⟨b2, h⟩ := zB h
  have b1 : v &&& m = 0 := Nat.eq_of_beq_eq_true b1
  have b2 : m ≤ 4294967295 := Nat.le_of_ble_eq_true b2
  rcases zNc h with ⟨e, h⟩ | ⟨j, -, h⟩
  · subst e
    rw [zf_eq] at h
    refine ⟨_, h, fun E ad x hx hq => ?_⟩
    obtain rfl := zbq0 hq
    have e : Nat.mul x 16 = 16 * x := Nat.mul_comm x 16
    rw [e]
    exact zn0' hx
  · rw [zf_eq] at h
    refine ⟨_, h, fun E ad x hx hq => ?_⟩
    have e : Nat.add (Nat.mul (Nat.add (Nat.mul v 4294967296) m) 16) 15 = 16 * (v * 4294967296 + m) + 15 := congrArg (· + 15) (Nat.mul_comm _ 16)
    rw [e]
    refine (zr15 (by omega) _).mpr ⟨x, hx, rfl, ?_⟩
    have e1 : (16 * (v * 4294967296 + m) + 15) / 16 / 4294967296 = v := by omega
    have e2 : (16 * (v * 4294967296 + m) + 15) / 16 % 4294967296 = m := by omega
    rw [e1, e2]
    exact ⟨b1, hq⟩
theorem zml_s {v m : Nat} {k : Nat → zR} {o : zo} (h : zml v m k = some o) : ∃ q, k q = some o ∧ ∀ (E : zen) (ad : zam) (x : Nat), x < 18446744073709551616 → zbq v m x → zrel E ad q (.long (lN x)) := by
  obtain ⟨b1, h⟩ := zB h
  obtain ⟨b2, h⟩ := zB h
  have b1 : v &&& m = 0 := Nat.eq_of_beq_eq_true b1
  have b2 : m ≤ 18446744073709551615 := Nat.le_of_ble_eq_true b2
  rcases zNc h with ⟨e, h⟩ | ⟨j, -, h⟩
  · subst e
    rw [zf_eq] at h
    refine ⟨_, h, fun E ad x hx hq => ?_⟩
    obtain rfl := zbq0 hq
    have e : Nat.add (Nat.mul x 16) 2 = 16 * x + 2 := congrArg (· + 2) (Nat.mul_comm x 16)
    rw [e]
    exact zn2' hx
  · rw [zf_eq] at h
    refine ⟨_, h, fun E ad x hx hq => ?_⟩
    have e : Nat.add (Nat.mul (Nat.add (Nat.mul v 18446744073709551616) m) 16) 14 = 16 * (v * 18446744073709551616 + m) + 14 := congrArg (· + 14) (Nat.mul_comm _ 16)
    rw [e]
    refine (zr14 (by omega) _).mpr ⟨x, hx, rfl, ?_⟩
    have e1 : (16 * (v * 18446744073709551616 + m) + 14) / 16 / 18446744073709551616 = v := by omega
    have e2 : (16 * (v * 18446744073709551616 + m) + 14) / 16 % 18446744073709551616 = m := by omega
    rw [e1, e2]
    exact ⟨b1, hq⟩
theorem zwl_s {x : Nat} {k : Nat → Nat → zR} {o : zo} (h : zwl x k = some o) : ∃ v m, k v m = some o ∧ ∀ (E : zen) (ad : zam) (X : Value), zrel E ad x X → ∃ a, a < 18446744073709551616 ∧ X = .long (lN a) ∧ zbt v m a := by
  rcases zBc h with ⟨b1, h⟩ | ⟨-, h⟩
  · rw [zs4] at h
    refine ⟨_, _, h, fun E ad X r => ?_⟩
    obtain ⟨a, e, ha, rfl⟩ := zn2 (zkq b1) r
    have e : x / 16 = a := by omega
    rw [e]
    exact ⟨a, ha, rfl, zbq_rf a⟩
  · obtain ⟨b1, h⟩ := zB h
    exact ⟨_, _, h, fun E ad X r => zn14 (zkq b1) r⟩
-- the bits of what is reckoned
theorem zb_and {v m x : Nat} (c : Nat) (h : zbq v m x) : zbq (v &&& c) (m &&& c) (x &&& c) := fun i hi => by
  rw [Nat.testBit_and] at hi ⊢
  rw [Nat.testBit_and]
  cases hm : m.testBit i with
  | false => rw [h i hm]
  | true => rw [hm, Bool.true_and] at hi; rw [hi, Bool.and_false, Bool.and_false]
theorem zb_or {v m x v2 m2 x2 : Nat} (h : zbq v m x) (h2 : zbq v2 m2 x2) : zbq (v ||| v2) (m ||| m2) (x ||| x2) := fun i hi => by
  rw [Nat.testBit_or, Bool.or_eq_false_iff] at hi
  rw [Nat.testBit_or, Nat.testBit_or, h i hi.1, h2 i hi.2]
theorem zb_shr {v m x : Nat} (s : Nat) (h : zbq v m x) : zbq (v / 2 ^ s) (m / 2 ^ s) (x / 2 ^ s) := fun i hi => by
  rw [Nat.testBit_div_two_pow] at hi ⊢
  rw [Nat.testBit_div_two_pow, h _ hi]
theorem zb_mod {v m x : Nat} (s : Nat) (h : zbq v m x) : zbq (v % 2 ^ s) (m % 2 ^ s) (x % 2 ^ s) := fun i hi => by
  rw [Nat.testBit_mod_two_pow] at hi ⊢
  rw [Nat.testBit_mod_two_pow]
  by_cases q : i < s
  · simp only [q, decide_true, Bool.true_and] at hi ⊢; exact h i hi
  · simp only [q, decide_false, Bool.false_and]
theorem zb_shl {v m x : Nat} (s : Nat) (h : zbq v m x) : zbq (v * 2 ^ s) (m * 2 ^ s) (x * 2 ^ s) := fun i hi => by
  rw [Nat.testBit_mul_two_pow] at hi ⊢
  rw [Nat.testBit_mul_two_pow]
  by_cases q : s ≤ i
  · simp only [q, decide_true, Bool.true_and] at hi ⊢; exact h _ hi
  · simp only [q, decide_false, Bool.false_and]
/-- the unknown bits apart -/
theorem zdis : ∀ (a b : Nat), a &&& b = 0 → a + b = a ||| b := by
  intro a
  induction a using Nat.strongRecOn with
  | ind a ih =>
    intro b h
    by_cases h0 : a = 0
    · subst h0; simp
    · have h1 : a / 2 &&& b / 2 = 0 := by rw [← Nat.and_div_two, h]
      have h2 := ih (a / 2) (by omega) (b / 2) h1
      have h3 : (a ||| b) / 2 = a / 2 ||| b / 2 := Nat.or_div_two
      have h4 : (a ||| b) % 2 = a % 2 ||| b % 2 := Nat.or_mod_two_pow (n := 1)
      have h5 : (a &&& b) % 2 = a % 2 &&& b % 2 := Nat.and_mod_two_pow (n := 1)
      rw [h] at h5
      have h6 : a % 2 < 2 := Nat.mod_lt _ (by decide)
      have h7 : b % 2 < 2 := Nat.mod_lt _ (by decide)
      have h8 : a % 2 ||| b % 2 = a % 2 + b % 2 := by
        rcases Nat.eq_zero_or_pos (a % 2) with z | z
        · rw [z]; simp
        · rcases Nat.eq_zero_or_pos (b % 2) with w | w
          · rw [w]; simp
          · have e1 : a % 2 = 1 := by omega
            have e2 : b % 2 = 1 := by omega
            rw [e1, e2] at h5; cases h5
      omega
theorem zbt_split {v m x : Nat} (h : zbt v m x) : x = v + (x &&& m) := by
  have h1 : v &&& (x &&& m) = 0 := Nat.eq_of_testBit_eq fun i => by
    rw [Nat.testBit_and, Nat.testBit_and, Nat.zero_testBit]
    cases hv : v.testBit i with
    | false => rfl
    | true => rw [zbt_off h.1 hv]; simp
  rw [zdis _ _ h1]
  refine Nat.eq_of_testBit_eq fun i => ?_
  rw [Nat.testBit_or, Nat.testBit_and]
  cases hm : m.testBit i with
  | false => rw [h.2 i hm]; simp
  | true =>
    cases hv : v.testBit i with
    | false => simp
    | true => rw [zbt_off h.1 hv] at hm; cases hm
theorem zbq_add {v m w : Nat} (hw : ∀ i, m.testBit i = false → w.testBit i = false) (hv : v &&& m = 0) : zbq v m (v + w) := fun i hi => by
  have h1 : v &&& w = 0 := Nat.eq_of_testBit_eq fun i => by
    rw [Nat.testBit_and, Nat.zero_testBit]
    cases h : v.testBit i with
    | false => rfl
    | true => rw [hw i (zbt_off hv h)]; rfl
  rw [zdis _ _ h1, Nat.testBit_or, hw i hi, Bool.or_false]
theorem zb_sub {v m x c : Nat} (h : zbt v m x) (hc : c ≤ v) (h2 : (v - c) &&& m = 0) : zbq (v - c) m (x - c) := by
  have e := zbt_split h
  have e2 : x - c = (v - c) + (x &&& m) := by omega
  rw [e2]
  exact zbq_add (fun i hi => by rw [Nat.testBit_and, hi, Bool.and_false]) h2
/-- the part of m that x has not -/
theorem zm_sub (m x : Nat) : m - (x &&& m) = m ^^^ (x &&& m) ∧ x &&& m ≤ m := by
  have h1 : (x &&& m) &&& (m ^^^ (x &&& m)) = 0 := Nat.eq_of_testBit_eq fun i => by
    simp only [Nat.testBit_and, Nat.testBit_xor, Nat.zero_testBit]
    cases x.testBit i <;> cases m.testBit i <;> rfl
  have h2 : (x &&& m) ||| (m ^^^ (x &&& m)) = m := Nat.eq_of_testBit_eq fun i => by
    simp only [Nat.testBit_and, Nat.testBit_or, Nat.testBit_xor]
    cases x.testBit i <;> cases m.testBit i <;> rfl
  have h3 := zdis _ _ h1
  rw [h2] at h3
  exact ⟨by omega, Nat.and_le_right⟩
theorem zb_neg {v m x v' : Nat} (h : zbt v m x) (hx : x < 18446744073709551616) (hm : v + m ≤ 18446744073709551616) (hv' : v' = (18446744073709551616 - (v + m)) % 18446744073709551616) (h2 : v' &&& m = 0) (hM : m < 18446744073709551616) : zbq v' m ((18446744073709551616 - x) % 18446744073709551616) := by
  have e := zbt_split h
  obtain ⟨e1, e2⟩ := zm_sub m x
  have hw : ∀ i, m.testBit i = false → (m - (x &&& m)).testBit i = false := fun i hi => by
    rw [e1, Nat.testBit_xor, Nat.testBit_and, hi, Bool.and_false]; rfl
  by_cases q : v + m = 0
  · have q1 : v = 0 := by omega
    have q2 : m = 0 := by omega
    subst q1; subst q2
    have : x = 0 := by rw [e]; simp
    subst this
    subst hv'
    exact fun i _ => rfl
  · have hv1 : v' = 18446744073709551616 - (v + m) := by rw [hv', Nat.mod_eq_of_lt (by omega)]
    have hlt : v' + m < 18446744073709551616 := by
      rw [zdis _ _ h2]
      exact Nat.or_lt_two_pow (n := 64) (by omega) hM
    have e3 : 18446744073709551616 - x = v' + (m - (x &&& m)) := by omega
    have key := zbq_add hw h2
    rw [← e3] at key
    rw [Nat.mod_eq_of_lt (by omega)]
    exact key
end Bits
