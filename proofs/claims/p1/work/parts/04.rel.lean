/-! WHAT THE EXECUTOR'S STATES MEAN. -/
/-- the names' numbers, the addresses of the cells that were there, the start's value that nobody looks at, how many names -/
abbrev zen : Type := (Nat → Int32) × (Nat → Nat) × Value × Nat
/-- how many cells have a number, and their addresses -/
abbrev zam : Type := Nat × (Nat → Nat)
/-- an int's number, + 2^31 -/
def zbi (i : Int32) : Nat := (i.toInt + 2147483648).toNat
def ziv (n : Nat) (i : Int32) : Prop := n / 4294967296 ≤ zbi i ∧ zbi i ≤ n % 4294967296
/-- bits that are known: where m has none, x has those of v -/
def zbq (v m x : Nat) : Prop := ∀ i, m.testBit i = false → x.testBit i = v.testBit i
def zbt (v m x : Nat) : Prop := v &&& m = 0 ∧ zbq v m x
theorem zbt_off {v m : Nat} (h : v &&& m = 0) {i : Nat} (hv : v.testBit i = true) : m.testBit i = false := by
  have h1 : (v &&& m).testBit i = false := by rw [h]; exact Nat.zero_testBit i
  rw [Nat.testBit_and, hv, Bool.true_and] at h1
  exact h1
theorem zbt_lo {v m x : Nat} (h : zbt v m x) : v ≤ x := by
  have e : v &&& x = v := Nat.eq_of_testBit_eq fun i => by
    rw [Nat.testBit_and]
    cases hv : v.testBit i with
    | false => rfl
    | true => rw [h.2 i (zbt_off h.1 hv), hv]; rfl
  rw [← e]; exact Nat.and_le_right
theorem zbt_hi {v m x : Nat} (h : zbq v m x) : x ≤ v ||| m := by
  have e : x &&& (v ||| m) = x := Nat.eq_of_testBit_eq fun i => by
    rw [Nat.testBit_and, Nat.testBit_or]
    cases hm : m.testBit i with
    | false => rw [h i hm]; cases v.testBit i <;> rfl
    | true => cases x.testBit i <;> cases v.testBit i <;> rfl
  rw [← e]; exact Nat.and_le_right
def zrel (e : zen) (ad : zam) (v : Nat) (x : Value) : Prop := match v % 16 with
  | 0 => v / 16 < 4294967296 ∧ x = .int (Int32.ofNat (v / 16))
  | 1 => v / 16 < e.2.2.2 ∧ x = .int (e.1 (v / 16))
  | 2 => v / 16 < 18446744073709551616 ∧ x = .long (Int64.ofNat (v / 16))
  | 3 => ∃ i, x = .int i ∧ ziv (v / 16) i
  | 4 => v / 16 < ad.1 ∧ x = .ref (ad.2 (v / 16))
  | 5 => x = .null
  | 6 => x = .ref (e.2.1 (v / 16))
  | 7 => x = .double (UInt64.ofNat (v / 16))
  | 8 => x = .float (UInt32.ofNat (v / 16))
  | 10 => x = e.2.2.1
  | 11 => ∃ i : Int32, x = .long i.toInt64 ∧ ziv (v / 16) i
  | 12 => ∃ i, x = .int i ∧ v / 16 < 64 ∧ i &&& 63 = Int32.ofNat (v / 16)
  | 13 => ∃ i : Int32, x = .int i ∧ v / 16 / 4294967296 ≤ (i.toUInt32 % 65536).toNat ∧ (i.toUInt32 % 65536).toNat ≤ v / 16 % 4294967296
  | 14 => ∃ n, n < 18446744073709551616 ∧ x = .long (Int64.ofNat n) ∧ zbt (v / 16 / 18446744073709551616) (v / 16 % 18446744073709551616) n
  | 15 => ∃ n, n < 4294967296 ∧ x = .int (Int32.ofNat n) ∧ zbt (v / 16 / 4294967296) (v / 16 % 4294967296) n
  | _ => False
/-- the names are numbers of registers, all different -/
def zEok (e : zen) : Prop := (∀ t, t < e.2.2.2 → 0 ≤ (e.1 t).toInt ∧ (e.1 t).toInt ≤ 7) ∧ (∀ t t', t < e.2.2.2 → t' < e.2.2.2 → e.1 t = e.1 t' → t = t') ∧ (e.2.2.1 = .null ∨ ∃ u, e.2.2.1 = .ref u)
theorem zl15 (v : Nat) : Nat.land v 15 = v % 16 := Nat.and_two_pow_sub_one_eq_mod v 4
theorem zs4 (v : Nat) : Nat.shiftRight v 4 = v / 16 := Nat.shiftRight_eq_div_pow v 4
theorem zr0 {e : zen} {ad : zam} {v : Nat} (h : v % 16 = 0) (x : Value) : zrel e ad v x ↔ v / 16 < 4294967296 ∧ x = .int (Int32.ofNat (v / 16)) := by unfold zrel; simp only [h]
theorem zr1 {e : zen} {ad : zam} {v : Nat} (h : v % 16 = 1) (x : Value) : zrel e ad v x ↔ v / 16 < e.2.2.2 ∧ x = .int (e.1 (v / 16)) := by unfold zrel; simp only [h]
theorem zr2 {e : zen} {ad : zam} {v : Nat} (h : v % 16 = 2) (x : Value) : zrel e ad v x ↔ v / 16 < 18446744073709551616 ∧ x = .long (Int64.ofNat (v / 16)) := by unfold zrel; simp only [h]
theorem zr3 {e : zen} {ad : zam} {v : Nat} (h : v % 16 = 3) (x : Value) : zrel e ad v x ↔ ∃ i, x = .int i ∧ ziv (v / 16) i := by unfold zrel; simp only [h]
theorem zr4 {e : zen} {ad : zam} {v : Nat} (h : v % 16 = 4) (x : Value) : zrel e ad v x ↔ v / 16 < ad.1 ∧ x = .ref (ad.2 (v / 16)) := by unfold zrel; simp only [h]
theorem zr5 {e : zen} {ad : zam} {v : Nat} (h : v % 16 = 5) (x : Value) : zrel e ad v x ↔ x = .null := by unfold zrel; simp only [h]
theorem zr6 {e : zen} {ad : zam} {v : Nat} (h : v % 16 = 6) (x : Value) : zrel e ad v x ↔ x = .ref (e.2.1 (v / 16)) := by unfold zrel; simp only [h]
theorem zr7 {e : zen} {ad : zam} {v : Nat} (h : v % 16 = 7) (x : Value) : zrel e ad v x ↔ x = .double (UInt64.ofNat (v / 16)) := by unfold zrel; simp only [h]
theorem zr8 {e : zen} {ad : zam} {v : Nat} (h : v % 16 = 8) (x : Value) : zrel e ad v x ↔ x = .float (UInt32.ofNat (v / 16)) := by unfold zrel; simp only [h]
theorem zr10 {e : zen} {ad : zam} {v : Nat} (h : v % 16 = 10) (x : Value) : zrel e ad v x ↔ x = e.2.2.1 := by unfold zrel; simp only [h]
theorem zr11 {e : zen} {ad : zam} {v : Nat} (h : v % 16 = 11) (x : Value) : zrel e ad v x ↔ ∃ i : Int32, x = .long i.toInt64 ∧ ziv (v / 16) i := by unfold zrel; simp only [h]
theorem zr12 {e : zen} {ad : zam} {v : Nat} (h : v % 16 = 12) (x : Value) : zrel e ad v x ↔ ∃ i, x = .int i ∧ v / 16 < 64 ∧ i &&& 63 = Int32.ofNat (v / 16) := by unfold zrel; simp only [h]
theorem zr13 {e : zen} {ad : zam} {v : Nat} (h : v % 16 = 13) (x : Value) : zrel e ad v x ↔ ∃ i : Int32, x = .int i ∧ v / 16 / 4294967296 ≤ (i.toUInt32 % 65536).toNat ∧ (i.toUInt32 % 65536).toNat ≤ v / 16 % 4294967296 := by unfold zrel; simp only [h]
theorem zr14 {e : zen} {ad : zam} {v : Nat} (h : v % 16 = 14) (x : Value) : zrel e ad v x ↔ ∃ n, n < 18446744073709551616 ∧ x = .long (Int64.ofNat n) ∧ zbt (v / 16 / 18446744073709551616) (v / 16 % 18446744073709551616) n := by unfold zrel; simp only [h]
theorem zr15 {e : zen} {ad : zam} {v : Nat} (h : v % 16 = 15) (x : Value) : zrel e ad v x ↔ ∃ n, n < 4294967296 ∧ x = .int (Int32.ofNat n) ∧ zbt (v / 16 / 4294967296) (v / 16 % 4294967296) n := by unfold zrel; simp only [h]
theorem zr9 {e : zen} {ad : zam} {v : Nat} {x : Value} (h : zrel e ad v x) : v % 16 ≠ 9 := by
  intro q
  unfold zrel at h
  rw [q] at h
  exact h
/-- more cells, the old ones where they were -/
def zle (a b : zam) : Prop := a.1 ≤ b.1 ∧ ∀ i, i < a.1 → b.2 i = a.2 i
theorem zle.rf (a : zam) : zle a a := ⟨Nat.le_refl _, fun _ _ => rfl⟩
theorem zle.tr {a b c : zam} (h : zle a b) (k : zle b c) : zle a c := ⟨Nat.le_trans h.1 k.1, fun i hi => by rw [k.2 i (Nat.lt_of_lt_of_le hi h.1), h.2 i hi]⟩
theorem zrel.mono {e : zen} {ad ad' : zam} {v : Nat} {x : Value} (hl : zle ad ad') (h : zrel e ad v x) : zrel e ad' v x := by
  by_cases q : v % 16 = 4
  · rw [zr4 q] at h ⊢
    exact ⟨Nat.lt_of_lt_of_le h.1 hl.1, by rw [hl.2 _ h.1]; exact h.2⟩
  · unfold zrel at h ⊢
    split at h <;> first | exact h | (rename_i q2; exact absurd q2 q)
-- inversions of the recursors
theorem zB {b : Bool} {x : zR} {o : zo} (h : @Bool.rec (fun _ => zR) none x b = some o) : b = true ∧ x = some o := by
  cases b
  · cases h
  · exact ⟨rfl, h⟩
theorem zB' {b : Bool} {x : zR} {o : zo} (h : @Bool.rec (fun _ => zR) x none b = some o) : b = false ∧ x = some o := by
  cases b
  · exact ⟨rfl, h⟩
  · cases h
theorem zBc {b : Bool} {x y : zR} {o : zo} (h : @Bool.rec (fun _ => zR) y x b = some o) : (b = true ∧ x = some o) ∨ (b = false ∧ y = some o) := by
  cases b
  · exact Or.inr ⟨rfl, h⟩
  · exact Or.inl ⟨rfl, h⟩
theorem zN {n : Nat} {f : Nat → zR → zR} {o : zo} (h : @Nat.rec (fun _ => zR) none f n = some o) : ∃ j, n = j + 1 ∧ f j (@Nat.rec (fun _ => zR) none f j) = some o := by
  cases n with
  | zero => cases h
  | succ j => exact ⟨j, rfl, h⟩
theorem zN0 {n : Nat} {x : zR} {o : zo} (h : @Nat.rec (fun _ => zR) x (fun _ _ => none) n = some o) : n = 0 ∧ x = some o := by
  cases n with
  | zero => exact ⟨rfl, h⟩
  | succ j => cases h
theorem zNc {n : Nat} {x : zR} {f : Nat → zR → zR} {o : zo} (h : @Nat.rec (fun _ => zR) x f n = some o) : (n = 0 ∧ x = some o) ∨ ∃ j, n = j + 1 ∧ f j (@Nat.rec (fun _ => zR) x f j) = some o := by
  cases n with
  | zero => exact Or.inl ⟨rfl, h⟩
  | succ j => exact Or.inr ⟨j, rfl, h⟩
theorem zLs {T : Type} {l : List T} {f : T → List T → zR → zR} {o : zo} (h : List.rec (motive := fun _ => zR) none f l = some o) : ∃ v t, l = v :: t ∧ f v t (List.rec (motive := fun _ => zR) none f t) = some o := by
  cases l with
  | nil => cases h
  | cons v t => exact ⟨v, t, rfl, h⟩
theorem zOp {T : Type} {x : Option T} {f : T → zR} {o : zo} (h : Option.rec (motive := fun _ => zR) none f x = some o) : ∃ v, x = some v ∧ f v = some o := by
  cases x with
  | none => cases h
  | some v => exact ⟨v, rfl, h⟩
theorem zf_eq (n : Nat) (k : Nat → zR) : zf n k = k n := rfl
theorem zlg_s {k : Nat → zR} {o : zo} : ∀ {l : List Nat} {i : Nat}, zlg l i k = some o → ∃ v, l[i]? = some v ∧ k v = some o
  | [], _, h => by cases h
  | a :: t, 0, h => ⟨a, rfl, h⟩
  | a :: t, i + 1, h => by
    obtain ⟨v, h1, h2⟩ := zlg_s (l := t) (i := i) h
    exact ⟨v, by simpa using h1, h2⟩
theorem zls_s {v : Nat} {o : zo} : ∀ {l : List Nat} {i : Nat} {k : List Nat → zR}, zls l i v k = some o → i < l.length ∧ k (l.set i v) = some o
  | [], _, _, h => by cases h
  | a :: t, 0, _, h => ⟨by simp, h⟩
  | a :: t, i + 1, k, h => by
    obtain ⟨h1, h2⟩ := zls_s (l := t) (i := i) (k := fun t' => k (a :: t')) h
    exact ⟨by simpa using h1, by simpa using h2⟩
theorem zrep_s (n v : Nat) : ∀ (acc : List Nat) (k : List Nat → zR), zrep n v acc k = k (List.replicate n v ++ acc) := by
  induction n with
  | zero => intro acc k; rfl
  | succ n ih =>
    intro acc k
    show zrep n v (v :: acc) k = _
    rw [ih]
    congr 1
    rw [List.replicate_succ', List.append_assoc]
    rfl
theorem zargs_s {n : Nat} {o : zo} : ∀ {st acc : List Nat} {k : List Nat → List Nat → zR}, zargs n st acc k = some o → ∃ as rest, st = as.reverse ++ rest ∧ as.length = n ∧ k (as ++ acc) rest = some o := by
  induction n with
  | zero => intro st acc k h; exact ⟨[], st, rfl, rfl, h⟩
  | succ n ih =>
    intro st acc k h
    obtain ⟨v, t, rfl, h⟩ := zLs h
    obtain ⟨as, rest, h1, h2, h3⟩ := ih h
    exact ⟨as ++ [v], rest, by rw [h1]; simp, by simp [h2], by simpa using h3⟩
