section Ntz
variable {Pre : zgl → zctx → Prop} {m : Nat} {md : zMD}
theorem znt_b {a b : Nat} (ha : a < 4294967296) (hb : b ≤ 31) (h : a % (2 ^ (b + 1)) = 2 ^ b) : (a ^^^ 4294967295) &&& (a + 4294967295) % 4294967296 = 2 ^ b - 1 := by
  have hp : 2 ^ (b + 1) = 2 * 2 ^ b := by rw [Nat.pow_succ, Nat.mul_comm]
  have h0 : 0 < 2 ^ b := Nat.two_pow_pos b
  have e0 : a = 2 ^ (b + 1) * (a / 2 ^ (b + 1)) + 2 ^ b := by
    have := Nat.div_add_mod a (2 ^ (b + 1)); omega
  have e1 : (a + 4294967295) % 4294967296 = 2 ^ (b + 1) * (a / 2 ^ (b + 1)) + (2 ^ b - 1) := by omega
  generalize a / 2 ^ (b + 1) = q at e0 e1
  rw [e1]
  apply Nat.eq_of_testBit_eq
  intro i
  have hm : (4294967295 : Nat) = 2 ^ 32 - 1 := by decide
  rw [Nat.testBit_and, Nat.testBit_xor, hm, Nat.testBit_two_pow_sub_one, Nat.testBit_two_pow_sub_one, Nat.testBit_two_pow_mul_add _ (by omega)]
  by_cases z : i < b + 1
  · rw [if_pos z, Nat.testBit_two_pow_sub_one, e0, Nat.testBit_two_pow_mul_add _ (by omega), if_pos z, Nat.testBit_two_pow]
    by_cases w : i = b
    · subst w; simp
    · have w1 : i < b := by omega
      have w2 : ¬ b = i := fun z => w z.symm
      have w3 : i < 32 := by omega
      simp [w1, w2, w3]
  · rw [if_neg z]
    have w1 : ¬ i < b := by omega
    cases ht : q.testBit (i - (b + 1)) with
    | false => simp [w1]
    | true =>
      have ht2 : a.testBit i = true := by
        rw [e0, Nat.testBit_two_pow_mul_add _ (by omega), if_neg z]; exact ht
      have w3 : i < 32 := by
        rcases Nat.lt_or_ge i 32 with w | w
        · exact w
        · rw [Nat.testBit_lt_two_pow (Nat.lt_of_lt_of_le ha (Nat.pow_le_pow_right (n := 2) (by decide) w))] at ht2
          cases ht2
      simp [w1, ht2, w3]
theorem ok_ntz (hm : zM m = some md) (d0 : decode md.2.1 0 = .ok (.iload_n 0, 1)) (d1 : decode md.2.1 1 = .ok (.iconst (-1), 1)) (d2 : decode md.2.1 2 = .ok (.ixor, 1)) (d3 : decode md.2.1 3 = .ok (.iload_n 0, 1)) (d4 : decode md.2.1 4 = .ok (.iconst 1, 1)) (d5 : decode md.2.1 5 = .ok (.isub, 1)) (d6 : decode md.2.1 6 = .ok (.iand, 1)) : zOK Pre m 0 (s_ntz 7) := by
  intro G ctx ih hG hN hP hI dep ls st h o ho
  obtain ⟨v, hl, ho⟩ := zlg_s ho
  rcases zBc ho with ⟨b1, ho⟩ | ⟨-, ho⟩
  · have b1 : v % 16 = 15 := zkq b1
    simp only [zf_eq] at ho
    generalize Nat.log2 (Nat.land (zlo v) (Nat.sub 4294967296 (zlo v))) = b at ho
    obtain ⟨c1, ho⟩ := zB ho
    obtain ⟨c2, ho⟩ := zB ho
    obtain ⟨c3, ho⟩ := zB ho
    have c1 : b ≤ 31 := zble c1
    have ew : Nat.shiftLeft 1 b = 2 ^ b := by
      have := Nat.shiftLeft_eq 1 b
      rw [Nat.one_mul] at this
      exact this
    rw [ew] at c2 c3 ho
    have ep : Nat.mul 2 (2 ^ b) = 2 ^ (b + 1) := by rw [Nat.pow_succ, Nat.mul_comm]; rfl
    rw [ep] at c2 c3
    have c2 : zlo v % 2 ^ (b + 1) = 2 ^ b := zbeq c2
    have c3 : zhi v % 2 ^ (b + 1) = 0 := zbeq c3
    have hq : Nat.mul (Nat.sub (2 ^ b) 1) 16 = 16 * (2 ^ b - 1) := Nat.mul_comm _ _
    rw [hq] at ho
    obtain ⟨h3, h4⟩ := hI m 7 dep ls _ h o ho
    refine ⟨h3, fun p e R s mid args below meth c H locs cells slots Q ad lsA vals q1 q2 q3 q4 q5 q6 q7 q8 => ?_⟩
    obtain ⟨X, w1, w2⟩ := q5.2.2.2 0 v hl (by omega)
    obtain ⟨a, ha, rfl, hz⟩ := zn15 b1 w2
    have hz2 := zb_mod (b + 1) hz.2
    rw [c3] at hz2
    have hz3 := zbq0 hz2
    rw [c2] at hz3
    obtain ⟨hx, hb, -⟩ := q1.of hm
    have h2b : 2 ^ b ≤ 2 ^ 31 := Nat.pow_le_pow_right (by decide) c1
    have key : (nI a ^^^ Int32.ofInt (-1)) &&& (nI a - Int32.ofInt 1) = nI (2 ^ b - 1) := by
      have e1 : Int32.ofInt (-1) = nI 4294967295 := by decide +kernel
      have e2 : Int32.ofInt 1 = nI 1 := rfl
      rw [e1, e2, zi_xor, zi_sub (by decide), ← zi_mod (a + _), zi_and]
      exact congrArg nI (znt_b ha c1 hz3)
    refine lv_iload_n hx hb d0 rfl w1 (lv_iconst hx hb d1 rfl (lv_ixor hx hb d2 (lv_iload_n hx hb d3 rfl w1 (lv_iconst hx hb d4 rfl (lv_isub hx hb d5 (lv_iand hx hb d6 ?_))))))
    rw [key]
    exact h4 p e R s mid args below meth c H locs cells slots Q ad lsA (.int (nI (2 ^ b - 1)) :: vals) q1 q2 q3 q4 q5 (zall.cons (zn0' (by omega)) q6) q7 q8
  · obtain ⟨b2, h9⟩ := zmk0 ho
    have n9 : v % 16 ≠ 9 := fun z => by rcases zkindI b2 with k | k | k | k | k | k <;> omega
    obtain ⟨h3, h4⟩ := hI m 1 dep ls _ h o h9
    refine ⟨h3, fun p e R s mid args below meth c H locs cells slots Q ad lsA vals q1 q2 q3 q4 q5 q6 q7 q8 => ?_⟩
    obtain ⟨X, w1, w2⟩ := q5.2.2.2 0 v hl n9
    obtain ⟨a, rfl⟩ := zint (zkindI b2) w2
    obtain ⟨hx, hb, -⟩ := q1.of hm
    exact lv_iload_n hx hb d0 rfl w1 (h4 p e R s mid args below meth c H locs cells slots Q ad lsA (.int a :: vals) q1 q2 q3 q4 q5 (zall.cons w2 q6) q7 q8)
end Ntz
