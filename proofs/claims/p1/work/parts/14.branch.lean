section Branch
variable {Pre : zgl → zctx → Prop} {m pc nx : Nat} {md : zMD}
/-- a test: 0 =, 1 not =, 2 <, 3 not <, 4 >, 5 not > -/
def zcnd (c a b : Nat) : Prop := match c with
  | 0 => a = b
  | 1 => ¬ a = b
  | 2 => a < b
  | 3 => b ≤ a
  | 4 => b < a
  | _ => a ≤ b
/-- what is known: 0 less, 1 alike, 2 more, 3 not alike, 4 not less, 5 not more -/
def zkn (q a b : Nat) : Prop := match q with
  | 0 => a < b
  | 1 => a = b
  | 2 => b < a
  | 3 => ¬ a = b
  | 4 => b ≤ a
  | _ => a ≤ b
theorem zcm2_s {x y : Nat} {k : Nat → zR} {o : zo} (h : zcm2 x y k = some o) : ∃ q, q < 6 ∧ k q = some o ∧ ∀ (E : zen) (ad : zam) (X Y : Value), zEok E → zrel E ad x X → zrel E ad y Y → ∃ i j : Int32, X = .int i ∧ Y = .int j ∧ zkn q (zbi i) (zbi j) := by
  obtain ⟨a, b, hb0, h, h1⟩ := zrng_s h
  obtain ⟨c, d, hd0, h, h2⟩ := zrng_s h
  rcases zBc h with ⟨b1, h⟩ | ⟨b1, h⟩
  · have b1 : b < c := zble b1
    refine ⟨0, by decide, h, fun E ad X Y hG r1 r2 => ?_⟩
    obtain ⟨i, rfl, p1, p2⟩ := h1 E ad X hG r1
    obtain ⟨j, rfl, p3, p4⟩ := h2 E ad Y hG r2
    exact ⟨i, j, rfl, rfl, show zbi i < zbi j by omega⟩
  · rcases zBc h with ⟨b2, h⟩ | ⟨b2, h⟩
    · have b2 : d < a := zble b2
      refine ⟨2, by decide, h, fun E ad X Y hG r1 r2 => ?_⟩
      obtain ⟨i, rfl, p1, p2⟩ := h1 E ad X hG r1
      obtain ⟨j, rfl, p3, p4⟩ := h2 E ad Y hG r2
      exact ⟨i, j, rfl, rfl, show zbi j < zbi i by omega⟩
    · rcases zBc h with ⟨b3, h⟩ | ⟨b3, h⟩
      · have b3 : d ≤ a := zble b3
        rcases zBc h with ⟨b4, h⟩ | ⟨b4, h⟩
        · have b4 : b ≤ c := zble b4
          refine ⟨1, by decide, h, fun E ad X Y hG r1 r2 => ?_⟩
          obtain ⟨i, rfl, p1, p2⟩ := h1 E ad X hG r1
          obtain ⟨j, rfl, p3, p4⟩ := h2 E ad Y hG r2
          exact ⟨i, j, rfl, rfl, show zbi i = zbi j by omega⟩
        · refine ⟨4, by decide, h, fun E ad X Y hG r1 r2 => ?_⟩
          obtain ⟨i, rfl, p1, p2⟩ := h1 E ad X hG r1
          obtain ⟨j, rfl, p3, p4⟩ := h2 E ad Y hG r2
          exact ⟨i, j, rfl, rfl, show zbi j ≤ zbi i by omega⟩
      · obtain ⟨b4, h⟩ := zB h
        have b4 : b ≤ c := zble b4
        refine ⟨5, by decide, h, fun E ad X Y hG r1 r2 => ?_⟩
        obtain ⟨i, rfl, p1, p2⟩ := h1 E ad X hG r1
        obtain ⟨j, rfl, p3, p4⟩ := h2 E ad Y hG r2
        exact ⟨i, j, rfl, rfl, show zbi i ≤ zbi j by omega⟩
theorem zcmp_s {nt x y : Nat} {k : Nat → zR} {o : zo} (h : zcmp nt x y k = some o) : ∃ q, q < 6 ∧ k q = some o ∧ ∀ (E : zen) (ad : zam) (X Y : Value), zEok E → E.2.2.2 = nt → zrel E ad x X → zrel E ad y Y → ∃ i j : Int32, X = .int i ∧ Y = .int j ∧ zkn q (zbi i) (zbi j) := by
  have old : zcm2 x y k = some o → ∃ q, q < 6 ∧ k q = some o ∧ ∀ (E : zen) (ad : zam) (X Y : Value), zEok E → E.2.2.2 = nt → zrel E ad x X → zrel E ad y Y → ∃ i j : Int32, X = .int i ∧ Y = .int j ∧ zkn q (zbi i) (zbi j) := fun h => by
    obtain ⟨q, h1, h2, h3⟩ := zcm2_s h
    exact ⟨q, h1, h2, fun E ad X Y hG _ => h3 E ad X Y hG⟩
  rcases zBc h with ⟨b1, h⟩ | ⟨-, h⟩
  · rcases zBc h with ⟨b2, h⟩ | ⟨-, h⟩
    · have b1 := zkq b1
      have b2 := zkq b2
      rcases zBc h with ⟨b3, h⟩ | ⟨b3, h⟩
      · have h9 := h
        have b3 := zbeq b3
        subst b3
        refine ⟨1, by decide, h9, fun E ad X Y hG hn r1 r2 => ?_⟩
        obtain ⟨-, rfl⟩ := (zr1 b1 X).mp r1
        obtain ⟨-, rfl⟩ := (zr1 b2 Y).mp r2
        exact ⟨_, _, rfl, rfl, rfl⟩
      · have b3 := znbeq b3
        obtain ⟨-, h⟩ := zB h
        obtain ⟨-, h⟩ := zB h
        refine ⟨3, by decide, h, fun E ad X Y hG hn r1 r2 => ?_⟩
        obtain ⟨l1, rfl⟩ := (zr1 b1 X).mp r1
        obtain ⟨l2, rfl⟩ := (zr1 b2 Y).mp r2
        refine ⟨_, _, rfl, rfl, fun w => b3 ?_⟩
        have := hG.2.1 _ _ l1 l2 (zbi_inj w)
        omega
    · exact old h
  · exact old h
theorem zdec_s {c q : Nat} {t f : zR} {o : zo} (hc : c < 6) (hq : q < 6) (h : zdec c q t f = some o) : (t = some o ∧ ∀ a b, zkn q a b → zcnd c a b) ∨ (f = some o ∧ ∀ a b, zkn q a b → ¬ zcnd c a b) := by
  have h1 : c = 0 ∨ c = 1 ∨ c = 2 ∨ c = 3 ∨ c = 4 ∨ c = 5 := by omega
  have h2 : q = 0 ∨ q = 1 ∨ q = 2 ∨ q = 3 ∨ q = 4 ∨ q = 5 := by omega
  rcases h1 with rfl | rfl | rfl | rfl | rfl | rfl <;> rcases h2 with rfl | rfl | rfl | rfl | rfl | rfl <;>
    first
      | exact Or.inl ⟨h, fun a b w => by simp only [zkn, zcnd] at w ⊢; omega⟩
      | exact Or.inr ⟨h, fun a b w => by simp only [zkn, zcnd] at w ⊢; omega⟩
      | exact absurd (show (none : zR) = some o from h) (by simp)
/-- a test of a number -/
def zTs (c : Nat) (t0 : Nat → Bool) : Prop := ∀ a, a < 4294967296 → (t0 (16 * a) = true ↔ zcnd c ((a + 2147483648) % 4294967296) 2147483648)
def zTt (c : Nat) (t0 : Nat → Nat → Bool) : Prop := ∀ a b, a < 4294967296 → b < 4294967296 → (t0 (16 * a) (16 * b) = true ↔ zcnd c ((a + 2147483648) % 4294967296) ((b + 2147483648) % 4294967296))
theorem zbbeq {a b : Nat} : Nat.beq a b = true ↔ a = b := ⟨Nat.eq_of_beq_eq_true, fun h => by rw [h]; exact Nat.beq_refl _⟩
theorem zbble {a b : Nat} : Nat.ble a b = true ↔ a ≤ b := ⟨Nat.le_of_ble_eq_true, Nat.ble_eq_true_of_le⟩
theorem zt_eq : zTs 0 zi_eq := fun a ha => by unfold zi_eq zcnd; simp only [zbbeq]; omega
theorem zt_ne : zTs 1 zi_ne := fun a ha => by unfold zi_ne zcnd; simp only [zbble]; omega
theorem zt_lt : zTs 2 zi_lt := fun a ha => by unfold zi_lt zcnd; simp only [zbble]; omega
theorem zt_ge : zTs 3 zi_ge := fun a ha => by unfold zi_ge zcnd; simp only [zbble]; omega
theorem zt_gt : zTs 4 zi_gt := fun a ha => by unfold zi_gt zcnd; simp only [zbble, zmd, Nat.add_eq]; omega
theorem zt_le : zTs 5 zi_le := fun a ha => by unfold zi_le zcnd; simp only [zbble, zmd, Nat.add_eq]; omega
theorem zv_eq : zTt 0 zu_eq := fun a b ha hb => by unfold zu_eq zcnd; simp only [zbbeq]; omega
theorem zv_ne : zTt 1 zu_ne := fun a b ha hb => by unfold zu_ne zcnd; simp only [zbbeq, Nat.add_eq, Nat.sub_eq]; omega
theorem zv_lt : zTt 2 zu_lt := fun a b ha hb => by unfold zu_lt zcnd; simp only [zbble, zmd, Nat.add_eq, Nat.succ_eq_add_one]; omega
theorem zv_ge : zTt 3 zu_ge := fun a b ha hb => by unfold zu_ge zcnd; simp only [zbble, zmd, Nat.add_eq]; omega
theorem zv_gt : zTt 4 zu_gt := fun a b ha hb => by unfold zu_gt zcnd; simp only [zbble, zmd, Nat.add_eq, Nat.succ_eq_add_one]; omega
theorem zv_le : zTt 5 zu_le := fun a b ha hb => by unfold zu_le zcnd; simp only [zbble, zmd, Nat.add_eq]; omega
theorem zbi0 : zbi (0 : Int32) = 2147483648 := by decide +kernel
def zIfRow (c m pc t nx : Nat) : Prop := ∀ (p : Program) (l : Launch) (e : Env) (R : Room) (s : State) (mid : MethodId) (args : Array Value) (below : List Frame) (meth : Method) (cc : Code) (H : Heap) (locs : List Loc) (cells slots : Nat) (Q : State → Prop) (lsA : Array Slot) (i : Int32) (rest : List Value), zF m p s mid args meth cc → (zcnd c (zbi i) 2147483648 → W p l e R s mid args below meth cc H locs cells slots Q (F0 mid t lsA rest)) → (¬ zcnd c (zbi i) 2147483648 → W p l e R s mid args below meth cc H locs cells slots Q (F0 mid nx lsA rest)) → W p l e R s mid args below meth cc H locs cells slots Q (F0 mid pc lsA (.int i :: rest))
def zIcRow (c m pc t nx : Nat) : Prop := ∀ (p : Program) (l : Launch) (e : Env) (R : Room) (s : State) (mid : MethodId) (args : Array Value) (below : List Frame) (meth : Method) (cc : Code) (H : Heap) (locs : List Loc) (cells slots : Nat) (Q : State → Prop) (lsA : Array Slot) (i j : Int32) (rest : List Value), zF m p s mid args meth cc → (zcnd c (zbi i) (zbi j) → W p l e R s mid args below meth cc H locs cells slots Q (F0 mid t lsA rest)) → (¬ zcnd c (zbi i) (zbi j) → W p l e R s mid args below meth cc H locs cells slots Q (F0 mid nx lsA rest)) → W p l e R s mid args below meth cc H locs cells slots Q (F0 mid pc lsA (.int j :: .int i :: rest))
theorem ok_if0 {c t : Nat} {t0 : Nat → Bool} (hc : c < 6) (ht : zTs c t0) (row : zIfRow c m pc t nx) : zOK Pre m pc (s_if c t0 t nx) := by
  refine zOK.pure fun G ctx ih dep ls st h o hG hN hP ho => ?_
  obtain ⟨x, r, rfl, ho⟩ := zLs ho
  have yes : ih m t dep ls r h = some o → (∀ ad X, zrel G.2.1 ad x X → ∃ i, X = .int i ∧ zcnd c (zbi i) 2147483648) → ∃ pc' st', ih m pc' dep ls st' h = some o ∧ ∀ (ad : zam) (vals : List Value), zall G.2.1 ad (x :: r) vals → ∃ vals', zall G.2.1 ad st' vals' ∧ zStep m pc vals pc' vals' := fun ho hX => by
    refine ⟨t, r, ho, fun ad vals hv => ?_⟩
    obtain ⟨X, vals, rfl, r1, hv1⟩ := hv.inv
    obtain ⟨i, rfl, hi⟩ := hX ad X r1
    exact ⟨vals, hv1, fun p l e R s mid args below meth cc H locs cells slots Q lsA hF k => row p l e R s mid args below meth cc H locs cells slots Q lsA i vals hF (fun _ => k) fun w => absurd hi w⟩
  have no : ih m nx dep ls r h = some o → (∀ ad X, zrel G.2.1 ad x X → ∃ i, X = .int i ∧ ¬ zcnd c (zbi i) 2147483648) → ∃ pc' st', ih m pc' dep ls st' h = some o ∧ ∀ (ad : zam) (vals : List Value), zall G.2.1 ad (x :: r) vals → ∃ vals', zall G.2.1 ad st' vals' ∧ zStep m pc vals pc' vals' := fun ho hX => by
    refine ⟨nx, r, ho, fun ad vals hv => ?_⟩
    obtain ⟨X, vals, rfl, r1, hv1⟩ := hv.inv
    obtain ⟨i, rfl, hi⟩ := hX ad X r1
    exact ⟨vals, hv1, fun p l e R s mid args below meth cc H locs cells slots Q lsA hF k => row p l e R s mid args below meth cc H locs cells slots Q lsA i vals hF (fun w => absurd w hi) fun _ => k⟩
  rcases zBc ho with ⟨b1, ho⟩ | ⟨-, ho⟩
  · rcases zBc ho with ⟨b2, ho⟩ | ⟨b2, ho⟩
    · refine yes ho fun ad X r1 => ?_
      obtain ⟨a, rfl, ha, rfl⟩ := zn0 (zkq b1) r1
      exact ⟨_, rfl, by rw [zbi_nI ha]; exact (ht a ha).mp b2⟩
    · refine no ho fun ad X r1 => ?_
      obtain ⟨a, rfl, ha, rfl⟩ := zn0 (zkq b1) r1
      refine ⟨_, rfl, fun w => ?_⟩
      rw [zbi_nI ha] at w
      rw [(ht a ha).mpr w] at b2
      cases b2
  · obtain ⟨q, hq, ho, hX⟩ := zcmp_s ho
    have hY : ∀ ad X, zrel G.2.1 ad x X → ∃ i, X = .int i ∧ zkn q (zbi i) 2147483648 := fun ad X r1 => by
      obtain ⟨i, j, e1, e2, e3⟩ := hX G.2.1 ad X (.int (nI 0)) hG hN r1 (zn0' (a := 0) (by decide))
      cases e2
      rw [nI_0, zbi0] at e3
      exact ⟨i, e1, e3⟩
    rcases zdec_s hc hq ho with ⟨ho, hz⟩ | ⟨ho, hz⟩
    · exact yes ho fun ad X r1 => by obtain ⟨i, e1, e2⟩ := hY ad X r1; exact ⟨i, e1, hz _ _ e2⟩
    · exact no ho fun ad X r1 => by obtain ⟨i, e1, e2⟩ := hY ad X r1; exact ⟨i, e1, hz _ _ e2⟩
theorem zlor0 {x y : Nat} (h : Nat.beq (Nat.land (Nat.lor x y) 15) 0 = true) : x % 16 = 0 ∧ y % 16 = 0 := by
  have h1 := zkq h
  have e : Nat.lor x y = x ||| y := rfl
  rw [e] at h1
  have h2 := Nat.or_mod_two_pow (a := x) (b := y) (n := 4)
  rw [show (2 : Nat) ^ 4 = 16 from rfl] at h2
  have h1 : (x ||| y) % 16 = 0 := h1
  rw [h1] at h2
  exact Nat.or_eq_zero_iff.mp h2.symm
theorem ok_ic0 {c t : Nat} {t0 : Nat → Nat → Bool} (hc : c < 6) (ht : zTt c t0) (row : zIcRow c m pc t nx) : zOK Pre m pc (s_ic c t0 t nx) := by
  refine zOK.pure fun G ctx ih dep ls st h o hG hN hP ho => ?_
  obtain ⟨y, r, rfl, ho⟩ := zLs ho
  obtain ⟨x, r, rfl, ho⟩ := zLs ho
  have yes : ih m t dep ls r h = some o → (∀ ad X Y, zrel G.2.1 ad x X → zrel G.2.1 ad y Y → ∃ i j, X = .int i ∧ Y = .int j ∧ zcnd c (zbi i) (zbi j)) → ∃ pc' st', ih m pc' dep ls st' h = some o ∧ ∀ (ad : zam) (vals : List Value), zall G.2.1 ad (y :: x :: r) vals → ∃ vals', zall G.2.1 ad st' vals' ∧ zStep m pc vals pc' vals' := fun ho hX => by
    refine ⟨t, r, ho, fun ad vals hv => ?_⟩
    obtain ⟨Y, vals, rfl, r2, hv1⟩ := hv.inv
    obtain ⟨X, vals, rfl, r1, hv2⟩ := hv1.inv
    obtain ⟨i, j, rfl, rfl, hi⟩ := hX ad X Y r1 r2
    exact ⟨vals, hv2, fun p l e R s mid args below meth cc H locs cells slots Q lsA hF k => row p l e R s mid args below meth cc H locs cells slots Q lsA i j vals hF (fun _ => k) fun w => absurd hi w⟩
  have no : ih m nx dep ls r h = some o → (∀ ad X Y, zrel G.2.1 ad x X → zrel G.2.1 ad y Y → ∃ i j, X = .int i ∧ Y = .int j ∧ ¬ zcnd c (zbi i) (zbi j)) → ∃ pc' st', ih m pc' dep ls st' h = some o ∧ ∀ (ad : zam) (vals : List Value), zall G.2.1 ad (y :: x :: r) vals → ∃ vals', zall G.2.1 ad st' vals' ∧ zStep m pc vals pc' vals' := fun ho hX => by
    refine ⟨nx, r, ho, fun ad vals hv => ?_⟩
    obtain ⟨Y, vals, rfl, r2, hv1⟩ := hv.inv
    obtain ⟨X, vals, rfl, r1, hv2⟩ := hv1.inv
    obtain ⟨i, j, rfl, rfl, hi⟩ := hX ad X Y r1 r2
    exact ⟨vals, hv2, fun p l e R s mid args below meth cc H locs cells slots Q lsA hF k => row p l e R s mid args below meth cc H locs cells slots Q lsA i j vals hF (fun w => absurd w hi) fun _ => k⟩
  rcases zBc ho with ⟨b1, ho⟩ | ⟨-, ho⟩
  · obtain ⟨c1, c2⟩ := zlor0 b1
    rcases zBc ho with ⟨b2, ho⟩ | ⟨b2, ho⟩
    · refine yes ho fun ad X Y r1 r2 => ?_
      obtain ⟨a, rfl, ha, rfl⟩ := zn0 c1 r1
      obtain ⟨b, rfl, hb, rfl⟩ := zn0 c2 r2
      exact ⟨_, _, rfl, rfl, by rw [zbi_nI ha, zbi_nI hb]; exact (ht a b ha hb).mp b2⟩
    · refine no ho fun ad X Y r1 r2 => ?_
      obtain ⟨a, rfl, ha, rfl⟩ := zn0 c1 r1
      obtain ⟨b, rfl, hb, rfl⟩ := zn0 c2 r2
      refine ⟨_, _, rfl, rfl, fun w => ?_⟩
      rw [zbi_nI ha, zbi_nI hb] at w
      rw [(ht a b ha hb).mpr w] at b2
      cases b2
  · obtain ⟨q, hq, ho, hX⟩ := zcmp_s ho
    rcases zdec_s hc hq ho with ⟨ho, hz⟩ | ⟨ho, hz⟩
    · exact yes ho fun ad X Y r1 r2 => by obtain ⟨i, j, e1, e2, e3⟩ := hX _ ad X Y hG hN r1 r2; exact ⟨i, j, e1, e2, hz _ _ e3⟩
    · exact no ho fun ad X Y r1 r2 => by obtain ⟨i, j, e1, e2, e3⟩ := hX _ ad X Y hG hN r1 r2; exact ⟨i, j, e1, e2, hz _ _ e3⟩
theorem zbi_le {i j : Int32} : i ≤ j ↔ zbi i ≤ zbi j := by
  have h1 := zbi_toInt i; have h2 := zbi_toInt j
  rw [Int32.le_iff_toInt_le]; omega
theorem zbi_ltI {i j : Int32} : i < j ↔ zbi i < zbi j := by
  have h1 := zbi_toInt i; have h2 := zbi_toInt j
  rw [Int32.lt_iff_toInt_lt]; omega
theorem zbi_eqI {i j : Int32} : i = j ↔ zbi i = zbi j := ⟨fun h => by rw [h], zbi_inj⟩

theorem ok_if_eq {off : Int} {t : Nat} (hm : zM m = some md) (hd : decode md.2.1 pc = .ok (.ifCond .eq off, 3)) (ht : (pc : Int) + off = (t : Int)) (hn : pc + 3 = nx) : zOK Pre m pc (s_if 0 zi_eq t nx) := by
  subst hn
  refine ok_if0 (by decide) zt_eq fun p l e R s mid args below meth cc H locs cells slots Q lsA i rest hF k1 k2 => ?_
  obtain ⟨hx, hb, -⟩ := hF.of hm
  rw [← zbi0] at k1 k2
  simp only [zcnd, ← zbi_eqI, ← zbi_le, ← zbi_ltI, Decidable.not_not] at k1 k2
  exact lv_if_eq hx hb hd ht k1 k2
theorem ok_ic_eq {off : Int} {t : Nat} (hm : zM m = some md) (hd : decode md.2.1 pc = .ok (.if_icmp .eq off, 3)) (ht : (pc : Int) + off = (t : Int)) (hn : pc + 3 = nx) : zOK Pre m pc (s_ic 0 zu_eq t nx) := by
  subst hn
  refine ok_ic0 (by decide) zv_eq fun p l e R s mid args below meth cc H locs cells slots Q lsA i j rest hF k1 k2 => ?_
  obtain ⟨hx, hb, -⟩ := hF.of hm
  simp only [zcnd, ← zbi_eqI, ← zbi_le, ← zbi_ltI, Decidable.not_not] at k1 k2
  exact lv_icmp_eq hx hb hd ht k1 k2
theorem ok_if_ne {off : Int} {t : Nat} (hm : zM m = some md) (hd : decode md.2.1 pc = .ok (.ifCond .ne off, 3)) (ht : (pc : Int) + off = (t : Int)) (hn : pc + 3 = nx) : zOK Pre m pc (s_if 1 zi_ne t nx) := by
  subst hn
  refine ok_if0 (by decide) zt_ne fun p l e R s mid args below meth cc H locs cells slots Q lsA i rest hF k1 k2 => ?_
  obtain ⟨hx, hb, -⟩ := hF.of hm
  rw [← zbi0] at k1 k2
  simp only [zcnd, ← zbi_eqI, ← zbi_le, ← zbi_ltI, Decidable.not_not] at k1 k2
  exact lv_if_ne hx hb hd ht k1 k2
theorem ok_ic_ne {off : Int} {t : Nat} (hm : zM m = some md) (hd : decode md.2.1 pc = .ok (.if_icmp .ne off, 3)) (ht : (pc : Int) + off = (t : Int)) (hn : pc + 3 = nx) : zOK Pre m pc (s_ic 1 zu_ne t nx) := by
  subst hn
  refine ok_ic0 (by decide) zv_ne fun p l e R s mid args below meth cc H locs cells slots Q lsA i j rest hF k1 k2 => ?_
  obtain ⟨hx, hb, -⟩ := hF.of hm
  simp only [zcnd, ← zbi_eqI, ← zbi_le, ← zbi_ltI, Decidable.not_not] at k1 k2
  exact lv_icmp_ne hx hb hd ht k1 k2
theorem ok_if_lt {off : Int} {t : Nat} (hm : zM m = some md) (hd : decode md.2.1 pc = .ok (.ifCond .lt off, 3)) (ht : (pc : Int) + off = (t : Int)) (hn : pc + 3 = nx) : zOK Pre m pc (s_if 2 zi_lt t nx) := by
  subst hn
  refine ok_if0 (by decide) zt_lt fun p l e R s mid args below meth cc H locs cells slots Q lsA i rest hF k1 k2 => ?_
  obtain ⟨hx, hb, -⟩ := hF.of hm
  rw [← zbi0] at k1 k2
  simp only [zcnd, ← zbi_eqI, ← zbi_le, ← zbi_ltI, Decidable.not_not] at k1 k2
  exact lv_if_lt hx hb hd ht k1 k2
theorem ok_ic_lt {off : Int} {t : Nat} (hm : zM m = some md) (hd : decode md.2.1 pc = .ok (.if_icmp .lt off, 3)) (ht : (pc : Int) + off = (t : Int)) (hn : pc + 3 = nx) : zOK Pre m pc (s_ic 2 zu_lt t nx) := by
  subst hn
  refine ok_ic0 (by decide) zv_lt fun p l e R s mid args below meth cc H locs cells slots Q lsA i j rest hF k1 k2 => ?_
  obtain ⟨hx, hb, -⟩ := hF.of hm
  simp only [zcnd, ← zbi_eqI, ← zbi_le, ← zbi_ltI, Decidable.not_not] at k1 k2
  exact lv_icmp_lt hx hb hd ht k1 k2
theorem ok_if_ge {off : Int} {t : Nat} (hm : zM m = some md) (hd : decode md.2.1 pc = .ok (.ifCond .ge off, 3)) (ht : (pc : Int) + off = (t : Int)) (hn : pc + 3 = nx) : zOK Pre m pc (s_if 3 zi_ge t nx) := by
  subst hn
  refine ok_if0 (by decide) zt_ge fun p l e R s mid args below meth cc H locs cells slots Q lsA i rest hF k1 k2 => ?_
  obtain ⟨hx, hb, -⟩ := hF.of hm
  rw [← zbi0] at k1 k2
  simp only [zcnd, ← zbi_eqI, ← zbi_le, ← zbi_ltI, Decidable.not_not] at k1 k2
  exact lv_if_ge hx hb hd ht k1 k2
theorem ok_ic_ge {off : Int} {t : Nat} (hm : zM m = some md) (hd : decode md.2.1 pc = .ok (.if_icmp .ge off, 3)) (ht : (pc : Int) + off = (t : Int)) (hn : pc + 3 = nx) : zOK Pre m pc (s_ic 3 zu_ge t nx) := by
  subst hn
  refine ok_ic0 (by decide) zv_ge fun p l e R s mid args below meth cc H locs cells slots Q lsA i j rest hF k1 k2 => ?_
  obtain ⟨hx, hb, -⟩ := hF.of hm
  simp only [zcnd, ← zbi_eqI, ← zbi_le, ← zbi_ltI, Decidable.not_not] at k1 k2
  exact lv_icmp_ge hx hb hd ht k1 k2
theorem ok_if_gt {off : Int} {t : Nat} (hm : zM m = some md) (hd : decode md.2.1 pc = .ok (.ifCond .gt off, 3)) (ht : (pc : Int) + off = (t : Int)) (hn : pc + 3 = nx) : zOK Pre m pc (s_if 4 zi_gt t nx) := by
  subst hn
  refine ok_if0 (by decide) zt_gt fun p l e R s mid args below meth cc H locs cells slots Q lsA i rest hF k1 k2 => ?_
  obtain ⟨hx, hb, -⟩ := hF.of hm
  rw [← zbi0] at k1 k2
  simp only [zcnd, ← zbi_eqI, ← zbi_le, ← zbi_ltI, Decidable.not_not] at k1 k2
  exact lv_if_gt hx hb hd ht k1 k2
theorem ok_ic_gt {off : Int} {t : Nat} (hm : zM m = some md) (hd : decode md.2.1 pc = .ok (.if_icmp .gt off, 3)) (ht : (pc : Int) + off = (t : Int)) (hn : pc + 3 = nx) : zOK Pre m pc (s_ic 4 zu_gt t nx) := by
  subst hn
  refine ok_ic0 (by decide) zv_gt fun p l e R s mid args below meth cc H locs cells slots Q lsA i j rest hF k1 k2 => ?_
  obtain ⟨hx, hb, -⟩ := hF.of hm
  simp only [zcnd, ← zbi_eqI, ← zbi_le, ← zbi_ltI, Decidable.not_not] at k1 k2
  exact lv_icmp_gt hx hb hd ht k1 k2
theorem ok_if_le {off : Int} {t : Nat} (hm : zM m = some md) (hd : decode md.2.1 pc = .ok (.ifCond .le off, 3)) (ht : (pc : Int) + off = (t : Int)) (hn : pc + 3 = nx) : zOK Pre m pc (s_if 5 zi_le t nx) := by
  subst hn
  refine ok_if0 (by decide) zt_le fun p l e R s mid args below meth cc H locs cells slots Q lsA i rest hF k1 k2 => ?_
  obtain ⟨hx, hb, -⟩ := hF.of hm
  rw [← zbi0] at k1 k2
  simp only [zcnd, ← zbi_eqI, ← zbi_le, ← zbi_ltI, Decidable.not_not] at k1 k2
  exact lv_if_le hx hb hd ht k1 k2
theorem ok_ic_le {off : Int} {t : Nat} (hm : zM m = some md) (hd : decode md.2.1 pc = .ok (.if_icmp .le off, 3)) (ht : (pc : Int) + off = (t : Int)) (hn : pc + 3 = nx) : zOK Pre m pc (s_ic 5 zu_le t nx) := by
  subst hn
  refine ok_ic0 (by decide) zv_le fun p l e R s mid args below meth cc H locs cells slots Q lsA i j rest hF k1 k2 => ?_
  obtain ⟨hx, hb, -⟩ := hF.of hm
  simp only [zcnd, ← zbi_eqI, ← zbi_le, ← zbi_ltI, Decidable.not_not] at k1 k2
  exact lv_icmp_le hx hb hd ht k1 k2
end Branch
