section Cov
/-- what a value says of an int, the names given -/
def zR1 (nm : Nat → Int32) (nt v : Nat) (x : Int32) : Prop := ∀ (E : zen) (ad : zam), E.1 = nm → E.2.2.2 = nt → zrel E ad v (.int x)
def zNm (nm : Nat → Int32) (nt : Nat) : Prop := (∀ t, t < nt → 0 ≤ (nm t).toInt ∧ (nm t).toInt ≤ 7) ∧ ∀ t t', t < nt → t' < nt → nm t = nm t' → t = t'
/-- five ints that some check speaks of -/
def zGd (a b c d e : Int32) : Prop := ∃ (nm : Nat → Int32) (nt v1 v2 v3 v4 v5 : Nat), nt ≤ 4 ∧ zNm nm nt ∧ zck nt [v1, v2, v3, v4, v5] = true ∧ zR1 nm nt v1 a ∧ zR1 nm nt v2 b ∧ zR1 nm nt v3 c ∧ zR1 nm nt v4 d ∧ zR1 nm nt v5 e
def zCov (nt v1 v2 v3 v4 v5 : Nat) : Prop := ∀ (nm : Nat → Int32) (a b c d e : Int32), zNm nm nt → zR1 nm nt v1 a → zR1 nm nt v2 b → zR1 nm nt v3 c → zR1 nm nt v4 d → zR1 nm nt v5 e → zGd a b c d e
theorem cL {nt v1 v2 v3 v4 v5 : Nat} (h4 : Nat.ble nt 4 = true) (h : zchk nt v1 v2 v3 v4 v5 = true) : zCov nt v1 v2 v3 v4 v5 := fun nm a b c d e hn h1 h2 h3 h5 h6 => ⟨nm, nt, v1, v2, v3, v4, v5, Nat.le_of_ble_eq_true h4, hn, h, h1, h2, h3, h5, h6⟩
/-- all ints from one to another (+ 2^31) -/
noncomputable def zpc (lo hi : Nat) : Nat := @Bool.rec (fun _ => Nat) (Nat.add (Nat.mul (Nat.add (Nat.mul lo 4294967296) hi) 16) 3) (Nat.mul (Nat.mod (Nat.add 2147483648 lo) 4294967296) 16) (Nat.beq lo hi)
theorem zpc_eq (lo hi : Nat) : zpc lo hi = if lo = hi then 16 * ((2147483648 + lo) % 4294967296) else 16 * (lo * 4294967296 + hi) + 3 := by
  unfold zpc
  cases hb : Nat.beq lo hi with
  | true =>
    rw [if_pos (Nat.eq_of_beq_eq_true hb)]
    exact Nat.mul_comm _ 16
  | false =>
    rw [if_neg (znbeq hb)]
    exact congrArg (· + 3) (Nat.mul_comm _ 16)
theorem zpc_of {nm : Nat → Int32} {nt lo hi : Nat} {x : Int32} (h : hi < 4294967296) (h1 : lo ≤ zbi x) (h2 : zbi x ≤ hi) : zR1 nm nt (zpc lo hi) x := by
  intro E ad _ _
  rw [zpc_eq]
  by_cases q : lo = hi
  · rw [if_pos q]
    have hl : (2147483648 + lo) % 4294967296 < 4294967296 := Nat.mod_lt _ (by decide)
    have e : x = nI ((2147483648 + lo) % 4294967296) := zbi_inj (by rw [zbi_nI hl]; omega)
    rw [e]
    exact zn0' hl
  · rw [if_neg q]
    exact zn3' h h1 h2
theorem zpc_inv {nm : Nat → Int32} {nt lo hi : Nat} {x : Int32} (h : hi < 4294967296) (hl : lo ≤ hi) (r : zR1 nm nt (zpc lo hi) x) : lo ≤ zbi x ∧ zbi x ≤ hi := by
  have r := r (nm, fun _ => 0, .null, nt) (0, fun _ => 0) rfl rfl
  rw [zpc_eq] at r
  by_cases q : lo = hi
  · rw [if_pos q] at r
    obtain ⟨a, e, ha, hx⟩ := zn0 (by omega) r
    cases hx
    rw [zbi_nI ha]
    omega
  · rw [if_neg q] at r
    obtain ⟨i, hx, z1, z2⟩ := (zr3 (by omega) _).mp r
    cases hx
    rw [show (16 * (lo * 4294967296 + hi) + 3) / 16 = lo * 4294967296 + hi by omega] at z1 z2
    omega
/-- all ints whose char lies between two -/
def zch (lo hi : Nat) : Nat := Nat.add (Nat.mul (Nat.add (Nat.mul lo 4294967296) hi) 16) 13
theorem zch_eq (lo hi : Nat) : zch lo hi = 16 * (lo * 4294967296 + hi) + 13 := congrArg (· + 13) (Nat.mul_comm _ 16)
theorem zch_of {nm : Nat → Int32} {nt lo hi : Nat} {x : Int32} (h : hi < 4294967296) (h1 : lo ≤ (x.toUInt32 % 65536).toNat) (h2 : (x.toUInt32 % 65536).toNat ≤ hi) : zR1 nm nt (zch lo hi) x := by
  intro E ad _ _
  rw [zch_eq]
  refine (zr13 (by omega) _).mpr ⟨x, rfl, ?_, ?_⟩
  · rw [show (16 * (lo * 4294967296 + hi) + 13) / 16 / 4294967296 = lo by omega]; exact h1
  · rw [show (16 * (lo * 4294967296 + hi) + 13) / 16 % 4294967296 = hi by omega]; exact h2
theorem zch_inv {nm : Nat → Int32} {nt lo hi : Nat} {x : Int32} (h : hi < 4294967296) (r : zR1 nm nt (zch lo hi) x) : lo ≤ (x.toUInt32 % 65536).toNat ∧ (x.toUInt32 % 65536).toNat ≤ hi := by
  have r := r (nm, fun _ => 0, .null, nt) (0, fun _ => 0) rfl rfl
  rw [zch_eq] at r
  obtain ⟨i, hx, z1, z2⟩ := (zr13 (by omega) _).mp r
  cases hx
  rw [show (16 * (lo * 4294967296 + hi) + 13) / 16 / 4294967296 = lo by omega] at z1
  rw [show (16 * (lo * 4294967296 + hi) + 13) / 16 % 4294967296 = hi by omega] at z2
  exact ⟨z1, z2⟩
/-- a further name -/
theorem zR1.up {nm : Nat → Int32} {nt v : Nat} {x y : Int32} (r : zR1 nm nt v y) : zR1 (fun t => if t = nt then x else nm t) (nt + 1) v y := by
  intro E ad e1 e2
  have r := r (nm, E.2.1, E.2.2.1, nt) ad rfl rfl
  unfold zrel at r ⊢
  split at r
  · exact r
  · obtain ⟨r1, r2⟩ := r
    have r1 : v / 16 < nt := r1
    rw [e1, e2]
    refine ⟨by omega, ?_⟩
    show Value.int y = .int (if v / 16 = nt then x else nm (v / 16))
    rw [if_neg (by omega)]
    exact r2
  all_goals exact r
theorem zNm.up {nm : Nat → Int32} {nt : Nat} {x : Int32} (h : zNm nm nt) (h1 : 0 ≤ x.toInt) (h2 : x.toInt ≤ 7) (hx : ∀ t, t < nt → nm t ≠ x) : zNm (fun t => if t = nt then x else nm t) (nt + 1) := by
  refine ⟨fun t ht => ?_, fun t t' ht ht' e => ?_⟩
  · show 0 ≤ (if t = nt then x else nm t).toInt ∧ (if t = nt then x else nm t).toInt ≤ 7
    split
    · exact ⟨h1, h2⟩
    · exact h.1 t (by omega)
  · have e : (if t = nt then x else nm t) = (if t' = nt then x else nm t') := e
    split at e
    · split at e
      · omega
      · exact absurd e.symm (hx t' (by omega))
    · split at e
      · exact absurd e (hx t (by omega))
      · exact h.2 t t' (by omega) (by omega) e
theorem zR1.name {nm : Nat → Int32} {nt t : Nat} (ht : t < nt) : zR1 nm nt (16 * t + 1) (nm t) := by
  intro E ad e1 e2
  refine (zr1 (by omega) _).mpr ⟨?_, ?_⟩
  · rw [e2]; omega
  · rw [e1, show (16 * t + 1) / 16 = t by omega]
theorem zR1.new {nm : Nat → Int32} {nt : Nat} {x : Int32} : zR1 (fun t => if t = nt then x else nm t) (nt + 1) (16 * nt + 1) x := by
  have h := zR1.name (nm := fun t => if t = nt then x else nm t) (nt := nt + 1) (t := nt) (by omega)
  have e : (if nt = nt then x else nm nt) = x := if_pos rfl
  have h : zR1 (fun t => if t = nt then x else nm t) (nt + 1) (16 * nt + 1) (if nt = nt then x else nm nt) := h
  rw [e] at h
  exact h
/-- an int is the number of a register, told before or not, or lies below or above -/
theorem zreg {nm : Nat → Int32} {nt : Nat} {x : Int32} {P : Prop} (hn : ∀ t, t < nt → nm t = x → P) (hnew : 0 ≤ x.toInt → x.toInt ≤ 7 → (∀ t, t < nt → nm t ≠ x) → P) (hlo : zbi x ≤ 2147483647 → P) (hhi : 2147483656 ≤ zbi x → P) : P := by
  have hx := zbi_toInt x
  rcases Nat.lt_or_ge (zbi x) 2147483648 with q | q
  · exact hlo (by omega)
  · rcases Nat.lt_or_ge 2147483655 (zbi x) with w | w
    · exact hhi w
    · by_cases z : ∃ t, t < nt ∧ nm t = x
      · obtain ⟨t, z1, z2⟩ := z
        exact hn t z1 z2
      · exact hnew (by omega) (by omega) fun t ht e => z ⟨t, ht, e⟩
theorem zlt0 {P : Nat → Prop} : ∀ t, t < 0 → P t := fun t h => absurd h (Nat.not_lt_zero t)
theorem zlt1 {P : Nat → Prop} (h0 : P 0) : ∀ t, t < 1 → P t := fun t h => by
  obtain rfl : t = 0 := by omega
  exact h0
theorem zlt2 {P : Nat → Prop} (h0 : P 0) (h1 : P 1) : ∀ t, t < 2 → P t := fun t h => by
  have : t = 0 ∨ t = 1 := by omega
  rcases this with rfl | rfl
  · exact h0
  · exact h1
theorem zlt3 {P : Nat → Prop} (h0 : P 0) (h1 : P 1) (h2 : P 2) : ∀ t, t < 3 → P t := fun t h => by
  have : t = 0 ∨ t = 1 ∨ t = 2 := by omega
  rcases this with rfl | rfl | rfl
  · exact h0
  · exact h1
  · exact h2
theorem cI2 {nt v1 v3 v4 v5 lo m n hi : Nat} (h : (Nat.ble lo m && (Nat.beq n (m + 1) && (Nat.ble n hi && Nat.ble hi 4294967295))) = true) (k1 : zCov nt v1 (zpc lo m) v3 v4 v5) (k2 : zCov nt v1 (zpc n hi) v3 v4 v5) : zCov nt v1 (zpc lo hi) v3 v4 v5 := by
  intro nm a b c d e hn h1 h2 h3 h4 h5
  simp only [Bool.and_eq_true] at h
  obtain ⟨b1, b2, b3, b4⟩ := h
  have b1 := zble b1; have b2 := zbeq b2; have b3 := zble b3; have b4 := zble b4
  obtain ⟨z1, z2⟩ := zpc_inv (by omega) (by omega) h2
  rcases Nat.lt_or_ge m (zbi b) with q | q
  · exact k2 nm a b c d e hn h1 (zpc_of (by omega) (by omega) z2) h3 h4 h5
  · exact k1 nm a b c d e hn h1 (zpc_of (by omega) z1 q) h3 h4 h5
theorem cS2 {nt v1 v3 v4 v5 : Nat} (k : zCov nt v1 (zch 0 65535) v3 v4 v5) : zCov nt v1 (zpc 0 4294967295) v3 v4 v5 := by
  intro nm a b c d e hn h1 h2 h3 h4 h5
  have hl : (b.toUInt32 % 65536).toNat < 65536 := (zcharN b).2
  exact k nm a b c d e hn h1 (zch_of (by decide) (Nat.zero_le _) (by omega)) h3 h4 h5
theorem cC2 {nt v1 v3 v4 v5 lo m n hi : Nat} (h : (Nat.beq n (m + 1) && Nat.ble hi 65535) = true) (hm : Nat.ble m 65535 = true) (k1 : zCov nt v1 (zch lo m) v3 v4 v5) (k2 : zCov nt v1 (zch n hi) v3 v4 v5) : zCov nt v1 (zch lo hi) v3 v4 v5 := by
  intro nm a b c d e hn h1 h2 h3 h4 h5
  simp only [Bool.and_eq_true] at h
  obtain ⟨b2, b4⟩ := h
  have b2 := zbeq b2; have b4 := zble b4; have b5 := zble hm
  obtain ⟨z1, z2⟩ := zch_inv (by omega) h2
  rcases Nat.lt_or_ge m (b.toUInt32 % 65536).toNat with q | q
  · exact k2 nm a b c d e hn h1 (zch_of (by omega) (by omega) z2) h3 h4 h5
  · exact k1 nm a b c d e hn h1 (zch_of (by omega) z1 q) h3 h4 h5
theorem cR2 {nt v1 v3 v4 v5 : Nat} (kn : ∀ t, t < nt → zCov nt v1 (16 * t + 1) v3 v4 v5) (ku : zCov (nt + 1) v1 (16 * nt + 1) v3 v4 v5) (kl : zCov nt v1 (zpc 0 2147483647) v3 v4 v5) (kh : zCov nt v1 (zpc 2147483656 4294967295) v3 v4 v5) : zCov nt v1 (zpc 0 4294967295) v3 v4 v5 := by
  intro nm a b c d e hn h1 h2 h3 h4 h5
  have hb := zbi_lt b
  refine zreg (nm := nm) (nt := nt) (x := b) (fun t ht e0 => ?_) (fun p1 p2 p3 => ?_) (fun p => ?_) (fun p => ?_)
  · exact kn t ht nm a b c d e hn h1 (e0 ▸ zR1.name ht) h3 h4 h5
  · exact ku _ a b c d e (hn.up p1 p2 p3) h1.up zR1.new h3.up h4.up h5.up
  · exact kl nm a b c d e hn h1 (zpc_of (by decide) (Nat.zero_le _) p) h3 h4 h5
  · exact kh nm a b c d e hn h1 (zpc_of (by decide) p (by omega)) h3 h4 h5
theorem cI3 {nt v1 v2 v4 v5 lo m n hi : Nat} (h : (Nat.ble lo m && (Nat.beq n (m + 1) && (Nat.ble n hi && Nat.ble hi 4294967295))) = true) (k1 : zCov nt v1 v2 (zpc lo m) v4 v5) (k2 : zCov nt v1 v2 (zpc n hi) v4 v5) : zCov nt v1 v2 (zpc lo hi) v4 v5 := by
  intro nm a b c d e hn h1 h2 h3 h4 h5
  simp only [Bool.and_eq_true] at h
  obtain ⟨b1, b2, b3, b4⟩ := h
  have b1 := zble b1; have b2 := zbeq b2; have b3 := zble b3; have b4 := zble b4
  obtain ⟨z1, z2⟩ := zpc_inv (by omega) (by omega) h3
  rcases Nat.lt_or_ge m (zbi c) with q | q
  · exact k2 nm a b c d e hn h1 h2 (zpc_of (by omega) (by omega) z2) h4 h5
  · exact k1 nm a b c d e hn h1 h2 (zpc_of (by omega) z1 q) h4 h5
theorem cS3 {nt v1 v2 v4 v5 : Nat} (k : zCov nt v1 v2 (zch 0 65535) v4 v5) : zCov nt v1 v2 (zpc 0 4294967295) v4 v5 := by
  intro nm a b c d e hn h1 h2 h3 h4 h5
  have hl : (c.toUInt32 % 65536).toNat < 65536 := (zcharN c).2
  exact k nm a b c d e hn h1 h2 (zch_of (by decide) (Nat.zero_le _) (by omega)) h4 h5
theorem cC3 {nt v1 v2 v4 v5 lo m n hi : Nat} (h : (Nat.beq n (m + 1) && Nat.ble hi 65535) = true) (hm : Nat.ble m 65535 = true) (k1 : zCov nt v1 v2 (zch lo m) v4 v5) (k2 : zCov nt v1 v2 (zch n hi) v4 v5) : zCov nt v1 v2 (zch lo hi) v4 v5 := by
  intro nm a b c d e hn h1 h2 h3 h4 h5
  simp only [Bool.and_eq_true] at h
  obtain ⟨b2, b4⟩ := h
  have b2 := zbeq b2; have b4 := zble b4; have b5 := zble hm
  obtain ⟨z1, z2⟩ := zch_inv (by omega) h3
  rcases Nat.lt_or_ge m (c.toUInt32 % 65536).toNat with q | q
  · exact k2 nm a b c d e hn h1 h2 (zch_of (by omega) (by omega) z2) h4 h5
  · exact k1 nm a b c d e hn h1 h2 (zch_of (by omega) z1 q) h4 h5
theorem cR3 {nt v1 v2 v4 v5 : Nat} (kn : ∀ t, t < nt → zCov nt v1 v2 (16 * t + 1) v4 v5) (ku : zCov (nt + 1) v1 v2 (16 * nt + 1) v4 v5) (kl : zCov nt v1 v2 (zpc 0 2147483647) v4 v5) (kh : zCov nt v1 v2 (zpc 2147483656 4294967295) v4 v5) : zCov nt v1 v2 (zpc 0 4294967295) v4 v5 := by
  intro nm a b c d e hn h1 h2 h3 h4 h5
  have hb := zbi_lt c
  refine zreg (nm := nm) (nt := nt) (x := c) (fun t ht e0 => ?_) (fun p1 p2 p3 => ?_) (fun p => ?_) (fun p => ?_)
  · exact kn t ht nm a b c d e hn h1 h2 (e0 ▸ zR1.name ht) h4 h5
  · exact ku _ a b c d e (hn.up p1 p2 p3) h1.up h2.up zR1.new h4.up h5.up
  · exact kl nm a b c d e hn h1 h2 (zpc_of (by decide) (Nat.zero_le _) p) h4 h5
  · exact kh nm a b c d e hn h1 h2 (zpc_of (by decide) p (by omega)) h4 h5
theorem cI4 {nt v1 v2 v3 v5 lo m n hi : Nat} (h : (Nat.ble lo m && (Nat.beq n (m + 1) && (Nat.ble n hi && Nat.ble hi 4294967295))) = true) (k1 : zCov nt v1 v2 v3 (zpc lo m) v5) (k2 : zCov nt v1 v2 v3 (zpc n hi) v5) : zCov nt v1 v2 v3 (zpc lo hi) v5 := by
  intro nm a b c d e hn h1 h2 h3 h4 h5
  simp only [Bool.and_eq_true] at h
  obtain ⟨b1, b2, b3, b4⟩ := h
  have b1 := zble b1; have b2 := zbeq b2; have b3 := zble b3; have b4 := zble b4
  obtain ⟨z1, z2⟩ := zpc_inv (by omega) (by omega) h4
  rcases Nat.lt_or_ge m (zbi d) with q | q
  · exact k2 nm a b c d e hn h1 h2 h3 (zpc_of (by omega) (by omega) z2) h5
  · exact k1 nm a b c d e hn h1 h2 h3 (zpc_of (by omega) z1 q) h5
theorem cS4 {nt v1 v2 v3 v5 : Nat} (k : zCov nt v1 v2 v3 (zch 0 65535) v5) : zCov nt v1 v2 v3 (zpc 0 4294967295) v5 := by
  intro nm a b c d e hn h1 h2 h3 h4 h5
  have hl : (d.toUInt32 % 65536).toNat < 65536 := (zcharN d).2
  exact k nm a b c d e hn h1 h2 h3 (zch_of (by decide) (Nat.zero_le _) (by omega)) h5
theorem cC4 {nt v1 v2 v3 v5 lo m n hi : Nat} (h : (Nat.beq n (m + 1) && Nat.ble hi 65535) = true) (hm : Nat.ble m 65535 = true) (k1 : zCov nt v1 v2 v3 (zch lo m) v5) (k2 : zCov nt v1 v2 v3 (zch n hi) v5) : zCov nt v1 v2 v3 (zch lo hi) v5 := by
  intro nm a b c d e hn h1 h2 h3 h4 h5
  simp only [Bool.and_eq_true] at h
  obtain ⟨b2, b4⟩ := h
  have b2 := zbeq b2; have b4 := zble b4; have b5 := zble hm
  obtain ⟨z1, z2⟩ := zch_inv (by omega) h4
  rcases Nat.lt_or_ge m (d.toUInt32 % 65536).toNat with q | q
  · exact k2 nm a b c d e hn h1 h2 h3 (zch_of (by omega) (by omega) z2) h5
  · exact k1 nm a b c d e hn h1 h2 h3 (zch_of (by omega) z1 q) h5
theorem cR4 {nt v1 v2 v3 v5 : Nat} (kn : ∀ t, t < nt → zCov nt v1 v2 v3 (16 * t + 1) v5) (ku : zCov (nt + 1) v1 v2 v3 (16 * nt + 1) v5) (kl : zCov nt v1 v2 v3 (zpc 0 2147483647) v5) (kh : zCov nt v1 v2 v3 (zpc 2147483656 4294967295) v5) : zCov nt v1 v2 v3 (zpc 0 4294967295) v5 := by
  intro nm a b c d e hn h1 h2 h3 h4 h5
  have hb := zbi_lt d
  refine zreg (nm := nm) (nt := nt) (x := d) (fun t ht e0 => ?_) (fun p1 p2 p3 => ?_) (fun p => ?_) (fun p => ?_)
  · exact kn t ht nm a b c d e hn h1 h2 h3 (e0 ▸ zR1.name ht) h5
  · exact ku _ a b c d e (hn.up p1 p2 p3) h1.up h2.up h3.up zR1.new h5.up
  · exact kl nm a b c d e hn h1 h2 h3 (zpc_of (by decide) (Nat.zero_le _) p) h5
  · exact kh nm a b c d e hn h1 h2 h3 (zpc_of (by decide) p (by omega)) h5
theorem cI5 {nt v1 v2 v3 v4 lo m n hi : Nat} (h : (Nat.ble lo m && (Nat.beq n (m + 1) && (Nat.ble n hi && Nat.ble hi 4294967295))) = true) (k1 : zCov nt v1 v2 v3 v4 (zpc lo m)) (k2 : zCov nt v1 v2 v3 v4 (zpc n hi)) : zCov nt v1 v2 v3 v4 (zpc lo hi) := by
  intro nm a b c d e hn h1 h2 h3 h4 h5
  simp only [Bool.and_eq_true] at h
  obtain ⟨b1, b2, b3, b4⟩ := h
  have b1 := zble b1; have b2 := zbeq b2; have b3 := zble b3; have b4 := zble b4
  obtain ⟨z1, z2⟩ := zpc_inv (by omega) (by omega) h5
  rcases Nat.lt_or_ge m (zbi e) with q | q
  · exact k2 nm a b c d e hn h1 h2 h3 h4 (zpc_of (by omega) (by omega) z2)
  · exact k1 nm a b c d e hn h1 h2 h3 h4 (zpc_of (by omega) z1 q)
theorem cS5 {nt v1 v2 v3 v4 : Nat} (k : zCov nt v1 v2 v3 v4 (zch 0 65535)) : zCov nt v1 v2 v3 v4 (zpc 0 4294967295) := by
  intro nm a b c d e hn h1 h2 h3 h4 h5
  have hl : (e.toUInt32 % 65536).toNat < 65536 := (zcharN e).2
  exact k nm a b c d e hn h1 h2 h3 h4 (zch_of (by decide) (Nat.zero_le _) (by omega))
theorem cC5 {nt v1 v2 v3 v4 lo m n hi : Nat} (h : (Nat.beq n (m + 1) && Nat.ble hi 65535) = true) (hm : Nat.ble m 65535 = true) (k1 : zCov nt v1 v2 v3 v4 (zch lo m)) (k2 : zCov nt v1 v2 v3 v4 (zch n hi)) : zCov nt v1 v2 v3 v4 (zch lo hi) := by
  intro nm a b c d e hn h1 h2 h3 h4 h5
  simp only [Bool.and_eq_true] at h
  obtain ⟨b2, b4⟩ := h
  have b2 := zbeq b2; have b4 := zble b4; have b5 := zble hm
  obtain ⟨z1, z2⟩ := zch_inv (by omega) h5
  rcases Nat.lt_or_ge m (e.toUInt32 % 65536).toNat with q | q
  · exact k2 nm a b c d e hn h1 h2 h3 h4 (zch_of (by omega) (by omega) z2)
  · exact k1 nm a b c d e hn h1 h2 h3 h4 (zch_of (by omega) z1 q)
theorem cR5 {nt v1 v2 v3 v4 : Nat} (kn : ∀ t, t < nt → zCov nt v1 v2 v3 v4 (16 * t + 1)) (ku : zCov (nt + 1) v1 v2 v3 v4 (16 * nt + 1)) (kl : zCov nt v1 v2 v3 v4 (zpc 0 2147483647)) (kh : zCov nt v1 v2 v3 v4 (zpc 2147483656 4294967295)) : zCov nt v1 v2 v3 v4 (zpc 0 4294967295) := by
  intro nm a b c d e hn h1 h2 h3 h4 h5
  have hb := zbi_lt e
  refine zreg (nm := nm) (nt := nt) (x := e) (fun t ht e0 => ?_) (fun p1 p2 p3 => ?_) (fun p => ?_) (fun p => ?_)
  · exact kn t ht nm a b c d e hn h1 h2 h3 h4 (e0 ▸ zR1.name ht)
  · exact ku _ a b c d e (hn.up p1 p2 p3) h1.up h2.up h3.up h4.up zR1.new
  · exact kl nm a b c d e hn h1 h2 h3 h4 (zpc_of (by decide) (Nat.zero_le _) p)
  · exact kh nm a b c d e hn h1 h2 h3 h4 (zpc_of (by decide) p (by omega))
/-- the first int: its last six bits -/
theorem cOp {v2 v3 v4 v5 : Nat} (k : ∀ q, q < 64 → zCov 0 (16 * q + 12) v2 v3 v4 v5) : zCov 0 (zpc 0 4294967295) v2 v3 v4 v5 := by
  intro nm a b c d e hn h1 h2 h3 h4 h5
  obtain ⟨n, hn1, rfl⟩ := wb_of32 a
  have h63 : n &&& 63 < 64 := Nat.lt_of_le_of_lt Nat.and_le_right (by decide)
  refine k (n &&& 63) h63 nm (nI n) b c d e hn (fun E ad _ _ => ?_) h2 h3 h4 h5
  have e1 : (16 * (n &&& 63) + 12) / 16 = n &&& 63 := by omega
  refine (zr12 (by omega) _).mpr ⟨nI n, rfl, by rw [e1]; exact h63, ?_⟩
  rw [e1]
  exact zi_and n 63
/-- ints of which bits are known -/
noncomputable def zt15 (v m : Nat) : Nat := @Nat.rec (fun _ => Nat) (Nat.mul v 16) (fun _ _ => Nat.add (Nat.mul (Nat.add (Nat.mul v 4294967296) m) 16) 15) m
theorem zt15_of {nm : Nat → Int32} {nt v m n : Nat} (hn : n < 4294967296) (hm : m < 4294967296) (h0 : v &&& m = 0) (h : zbq v m n) : zR1 nm nt (zt15 v m) (nI n) := by
  intro E ad _ _
  cases m with
  | zero =>
    obtain rfl := zbq0 h
    have e : zt15 n 0 = 16 * n := Nat.mul_comm n 16
    rw [e]
    exact zn0' hn
  | succ j =>
    have e : zt15 v (j + 1) = 16 * (v * 4294967296 + (j + 1)) + 15 := congrArg (· + 15) (Nat.mul_comm _ 16)
    rw [e]
    refine (zr15 (by omega) _).mpr ⟨n, hn, rfl, ?_⟩
    rw [show (16 * (v * 4294967296 + (j + 1)) + 15) / 16 / 4294967296 = v by omega, show (16 * (v * 4294967296 + (j + 1)) + 15) / 16 % 4294967296 = j + 1 by omega]
    exact ⟨h0, h⟩
noncomputable def zhw (v m : Nat) : Nat := zt15 (Nat.div v 4294967296) (Nat.div m 4294967296)
noncomputable def zlw (v m : Nat) : Nat := zt15 (Nat.mod v 4294967296) (Nat.mod m 4294967296)
theorem zdv32 (v m : Nat) (h : v &&& m = 0) : v / 4294967296 &&& m / 4294967296 = 0 := by
  apply Nat.eq_of_testBit_eq
  intro i
  have e := congrArg (fun n => n.testBit (i + 32)) h
  simp only [Nat.testBit_and, Nat.zero_testBit] at e ⊢
  have h1 : ∀ n : Nat, (n / 4294967296).testBit i = n.testBit (i + 32) := fun n => Nat.testBit_div_two_pow (n := 32) n i
  rw [h1, h1]
  exact e
theorem zmd32 (v m : Nat) (h : v &&& m = 0) : v % 4294967296 &&& m % 4294967296 = 0 := by
  apply Nat.eq_of_testBit_eq
  intro i
  have e := congrArg (fun n => n.testBit i) h
  simp only [Nat.testBit_and, Nat.zero_testBit] at e ⊢
  have h1 : ∀ n : Nat, (n % 4294967296).testBit i = (decide (i < 32) && n.testBit i) := fun n => Nat.testBit_mod_two_pow n 32 i
  rw [h1, h1]
  cases decide (i < 32)
  · rfl
  · simp only [Bool.true_and]; exact e
/-- two ints, the halves of a number whose bits are known in part -/
theorem cPq {nt v1 v2 v5 : Nat} (F : Nat → Nat → Prop) (hF : ∀ n, n < 18446744073709551616 → ∃ v m, F v m ∧ m < 18446744073709551616 ∧ v &&& m = 0 ∧ zbq v m n) (k : ∀ v m, F v m → zCov nt v1 v2 (zhw v m) (zlw v m) v5) : zCov nt v1 v2 (zpc 0 4294967295) (zpc 0 4294967295) v5 := by
  intro nm a b c d e hn h1 h2 h3 h4 h5
  obtain ⟨x, hx, rfl⟩ := wb_of32 c
  obtain ⟨y, hy, rfl⟩ := wb_of32 d
  obtain ⟨v, m, f1, f2, f3, f4⟩ := hF (x * 4294967296 + y) (by omega)
  refine k v m f1 nm a b (nI x) (nI y) e hn h1 h2 (zt15_of hx (by show m / 4294967296 < 4294967296; omega) (zdv32 v m f3) ?_) (zt15_of hy (Nat.mod_lt _ (by decide)) (zmd32 v m f3) ?_) h5
  · have := zb_shr 32 f4
    have e1 : (x * 4294967296 + y) / 2 ^ 32 = x := by omega
    rw [e1] at this
    exact this
  · have := zb_mod 32 f4
    have e1 : (x * 4294967296 + y) % 2 ^ 32 = y := by omega
    rw [e1] at this
    exact this
theorem zb_top {n k : Nat} (h1 : 2 ^ k ≤ n) (h2 : n < 2 ^ (k + 1)) : 2 ^ k &&& (2 ^ k - 1) = 0 ∧ zbq (2 ^ k) (2 ^ k - 1) n := by
  refine ⟨by rw [Nat.and_two_pow_sub_one_eq_mod]; exact Nat.mod_self _, fun i hi => ?_⟩
  rw [Nat.testBit_two_pow_sub_one] at hi
  have hi : k ≤ i := by simpa using hi
  rw [Nat.testBit_two_pow]
  by_cases q : k = i
  · subst q
    have e : n = 2 ^ k * 1 + (n - 2 ^ k) := by omega
    rw [Nat.pow_succ] at h2
    rw [e, Nat.testBit_two_pow_mul_add _ (by omega), if_neg (Nat.lt_irrefl k), Nat.sub_self]
    simp
  · rw [Nat.testBit_lt_two_pow (Nat.lt_of_lt_of_le h2 (Nat.pow_le_pow_right (by decide) (by omega)))]
    simp [q]
theorem zlog {n : Nat} (h : n ≠ 0) : ∃ k, 2 ^ k ≤ n ∧ n < 2 ^ (k + 1) := ⟨Nat.log2 n, Nat.log2_self_le h, Nat.lt_log2_self⟩
theorem zpow_le {k j : Nat} (h : 2 ^ k < 2 ^ j) : k < j := (Nat.pow_lt_pow_iff_right (by decide)).mp h
/-- numbers from 0 on -/
def zFu (v m : Nat) : Prop := (v = 0 ∧ m = 0) ∨ ∃ k, k < 64 ∧ v = 2 ^ k ∧ m = 2 ^ k - 1
theorem zFu_ok : ∀ n, n < 18446744073709551616 → ∃ v m, zFu v m ∧ m < 18446744073709551616 ∧ v &&& m = 0 ∧ zbq v m n := fun n hn => by
  by_cases h : n = 0
  · subst h
    exact ⟨0, 0, Or.inl ⟨rfl, rfl⟩, by decide, rfl, fun i _ => rfl⟩
  · obtain ⟨k, h1, h2⟩ := zlog h
    have hk : k < 64 := zpow_le (j := 64) (Nat.lt_of_le_of_lt h1 hn)
    obtain ⟨b1, b2⟩ := zb_top h1 h2
    exact ⟨_, _, Or.inr ⟨k, hk, rfl, rfl⟩, by omega, b1, b2⟩
/-- the lowest bit of a number -/
theorem zlow : ∀ n : Nat, n ≠ 0 → ∃ t q, n = 2 ^ t * (2 * q + 1) := by
  intro n
  induction n using Nat.strongRecOn with
  | ind n ih =>
    intro h
    by_cases q : n % 2 = 1
    · exact ⟨0, n / 2, by rw [Nat.pow_zero, Nat.one_mul]; omega⟩
    · obtain ⟨t, r, e⟩ := ih (n / 2) (by omega) (by omega)
      refine ⟨t + 1, r, ?_⟩
      have e2 : n = 2 * (n / 2) := by omega
      rw [e2, e, Nat.pow_succ, Nat.mul_comm (2 ^ t) 2, Nat.mul_assoc]
/-- numbers with a sign: 0, those above 0 by their uppermost bit, those below 0 by the amount's uppermost and lowest bit -/
def zFs (v m : Nat) : Prop := (v = 0 ∧ m = 0) ∨ (∃ k, k < 63 ∧ v = 2 ^ k ∧ m = 2 ^ k - 1) ∨ (∃ k, k < 64 ∧ v = 18446744073709551616 - 2 ^ k ∧ m = 0) ∨ ∃ k t, k < 63 ∧ t < k ∧ v = 18446744073709551616 - 2 ^ (k + 1) + 2 ^ t ∧ m = 2 ^ k - 2 ^ (t + 1)
theorem zpw_sub {t k : Nat} (h : t ≤ k) : 2 ^ k - 2 ^ t = 2 ^ t * (2 ^ (k - t) - 1) := by
  rw [Nat.mul_sub, Nat.mul_one, ← Nat.pow_add, show t + (k - t) = k by omega]
/-- bits between two -/
theorem ztb_mid {t k : Nat} (h : t ≤ k) (i : Nat) : (2 ^ k - 2 ^ t).testBit i = (decide (t ≤ i) && decide (i < k)) := by
  rw [zpw_sub h, Nat.mul_comm, Nat.testBit_mul_two_pow, Nat.testBit_two_pow_sub_one]
  by_cases q : t ≤ i
  · simp only [q, decide_true, Bool.true_and]
    by_cases w : i < k
    · have : i - t < k - t := by omega
      simp [w, this]
    · have : ¬ i - t < k - t := by omega
      simp [w, this]
  · simp [q]
theorem zFs_ok : ∀ n, n < 18446744073709551616 → ∃ v m, zFs v m ∧ m < 18446744073709551616 ∧ v &&& m = 0 ∧ zbq v m n := fun n hn => by
  by_cases h : n = 0
  · subst h
    exact ⟨0, 0, Or.inl ⟨rfl, rfl⟩, by decide, rfl, fun i _ => rfl⟩
  · rcases Nat.lt_or_ge n 9223372036854775808 with hs | hs
    · obtain ⟨k, h1, h2⟩ := zlog h
      have hk : k < 63 := zpow_le (j := 63) (Nat.lt_of_le_of_lt h1 hs)
      obtain ⟨b1, b2⟩ := zb_top h1 h2
      exact ⟨_, _, Or.inr (Or.inl ⟨k, hk, rfl, rfl⟩), by omega, b1, b2⟩
    · obtain ⟨a, ha⟩ : ∃ a, a = 18446744073709551616 - n := ⟨_, rfl⟩
      have ha0 : a ≠ 0 := by omega
      obtain ⟨k, h1, h2⟩ := zlog ha0
      by_cases hp : a = 2 ^ k
      · have hk : k < 64 := zpow_le (j := 64) (by omega)
        exact ⟨18446744073709551616 - 2 ^ k, 0, Or.inr (Or.inr (Or.inl ⟨k, hk, rfl, rfl⟩)), by decide, Nat.and_zero _, fun i _ => by rw [show n = 18446744073709551616 - 2 ^ k by omega]⟩
      · have hk : k < 63 := zpow_le (j := 63) (by
          have : a ≤ 2 ^ 63 := by omega
          omega)
        obtain ⟨t, q, e⟩ := zlow a ha0
        have ht0 := Nat.two_pow_pos t
        have htk : t < k := by
          rcases Nat.lt_or_ge t k with z | z
          · exact z
          · exfalso
            have z1 : 2 ^ k ≤ 2 ^ t := Nat.pow_le_pow_right (by decide) z
            by_cases q0 : q = 0
            · subst q0
              rw [Nat.mul_zero, Nat.zero_add, Nat.mul_one] at e
              have z2 : k + 1 ≤ t ∨ t = k := by omega
              rcases z2 with z2 | z2
              · have : 2 ^ (k + 1) ≤ 2 ^ t := Nat.pow_le_pow_right (by decide) z2
                omega
              · rw [z2] at e; exact hp e
            · have z3 : 2 ^ t * 3 ≤ a := by rw [e]; exact Nat.mul_le_mul_left _ (by omega)
              rw [Nat.pow_succ] at h2
              omega
        have p1 : 2 ^ (t + 1) ≤ 2 ^ k := Nat.pow_le_pow_right (by decide) htk
        have p2 : 2 ^ (t + 1) = 2 * 2 ^ t := by rw [Nat.pow_succ, Nat.mul_comm]
        have p3 : 2 ^ (k + 1) = 2 * 2 ^ k := by rw [Nat.pow_succ, Nat.mul_comm]
        have p4 : 2 ^ (k + 1) ≤ 2 ^ 63 := Nat.pow_le_pow_right (by decide) hk
        have p5 : 2 ^ 63 = 9223372036854775808 := by decide
        -- the bits of the amount
        have hA : ∀ i, (2 ^ k - 2 ^ (t + 1)).testBit i = false → a.testBit i = (2 ^ k + 2 ^ t).testBit i := fun i hi => by
          rw [ztb_mid htk] at hi
          have e2 : 2 ^ k + 2 ^ t = 2 ^ k * 1 + 2 ^ t := by omega
          have e3 : a = 2 ^ (t + 1) * q + 2 ^ t := by rw [e, p2, Nat.mul_add, Nat.mul_one, Nat.mul_comm 2 (2 ^ t), Nat.mul_assoc]
          have e4 : a = 2 ^ k * 1 + (a - 2 ^ k) := by omega
          rw [e2, Nat.testBit_two_pow_mul_add _ (by omega)]
          by_cases w : i < t + 1
          · rw [if_pos (by omega), e3, Nat.testBit_two_pow_mul_add _ (by omega), if_pos w]
          · have w2 : k ≤ i := by
              rcases Nat.lt_or_ge i k with z | z
              · exfalso
                have z5 : t + 1 ≤ i := by omega
                simp [z, z5] at hi
              · exact z
            rw [if_neg (by omega), e4, Nat.testBit_two_pow_mul_add _ (by omega), if_neg (by omega)]
        have hd : ∀ i, ((2 ^ k + 2 ^ t) &&& (2 ^ k - 2 ^ (t + 1))).testBit i = (0 : Nat).testBit i := fun i => by
          rw [Nat.testBit_and, ztb_mid htk, Nat.zero_testBit]
          have e2 : 2 ^ k + 2 ^ t = 2 ^ k * 1 + 2 ^ t := by omega
          rw [e2, Nat.testBit_two_pow_mul_add _ (by omega), Nat.testBit_two_pow]
          by_cases w : i < k
          · rw [if_pos w]
            by_cases w2 : t = i
            · have : ¬ t + 1 ≤ i := by omega
              simp [this]
            · simp [w2]
          · simp [w]
        have hz : zbt (2 ^ k + 2 ^ t) (2 ^ k - 2 ^ (t + 1)) a := ⟨Nat.eq_of_testBit_eq hd, hA⟩
        have ev : 18446744073709551616 - 2 ^ (k + 1) + 2 ^ t = (18446744073709551616 - (2 ^ k + 2 ^ t + (2 ^ k - 2 ^ (t + 1)))) % 18446744073709551616 := by
          rw [Nat.mod_eq_of_lt (by omega)]; omega
        have hd2 : (18446744073709551616 - 2 ^ (k + 1) + 2 ^ t) &&& (2 ^ k - 2 ^ (t + 1)) = 0 := by
          apply Nat.eq_of_testBit_eq
          intro i
          rw [Nat.testBit_and, ztb_mid htk, Nat.zero_testBit]
          have e5 : 18446744073709551616 - 2 ^ (k + 1) + 2 ^ t = 2 ^ (k + 1) * (2 ^ (63 - k) - 1) + 2 ^ t := by
            have e6 := zpw_sub (t := k + 1) (k := 64) (by omega)
            rw [show 64 - (k + 1) = 63 - k by omega, show (2 : Nat) ^ 64 = 18446744073709551616 by decide] at e6
            rw [← e6]
          rw [e5, Nat.testBit_two_pow_mul_add _ (by omega), Nat.testBit_two_pow]
          by_cases w : i < k
          · rw [if_pos (by omega)]
            by_cases w2 : t = i
            · have : ¬ t + 1 ≤ i := by omega
              simp [this]
            · simp [w2]
          · simp [w]
        have key := zb_neg hz (by omega) (by omega) ev hd2 (by omega)
        rw [show (18446744073709551616 - a) % 18446744073709551616 = n by rw [Nat.mod_eq_of_lt (by omega)]; omega] at key
        exact ⟨_, _, Or.inr (Or.inr (Or.inr ⟨k, t, hk, htk, rfl, rfl⟩)), by omega, hd2, key⟩
end Cov
