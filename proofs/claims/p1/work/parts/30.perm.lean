section Perm
/-- the class's registers lie at 289, 291 .., the reference's at 312, 315 ..: a place of the heap, the registers changed about -/
def zpm (σ : Nat → Nat) (i : Nat) : Nat := if 289 ≤ i ∧ i < 305 then 289 + 2 * σ ((i - 289) / 2) + (i - 289) % 2 else if 312 ≤ i ∧ i < 336 then 312 + 3 * σ ((i - 312) / 3) + (i - 312) % 3 else i
def zsg (σ : Nat → Nat) : Prop := (∀ r, r < 8 → σ r < 8) ∧ ∀ r r', r < 8 → r' < 8 → σ r = σ r' → r = r'
theorem zpm_lt {σ : Nat → Nat} (h : zsg σ) {i : Nat} (hi : i < 338) : zpm σ i < 338 := by
  unfold zpm
  split
  · have := h.1 ((i - 289) / 2) (by omega); omega
  · split
    · have := h.1 ((i - 312) / 3) (by omega); omega
    · exact hi
theorem zpm_inj {σ : Nat → Nat} (h : zsg σ) {i j : Nat} (hi : i < 338) (hj : j < 338) (e : zpm σ i = zpm σ j) : i = j := by
  unfold zpm at e
  split at e
  · have a1 := h.1 ((i - 289) / 2) (by omega)
    split at e
    · have a2 := h.1 ((j - 289) / 2) (by omega)
      have : σ ((i - 289) / 2) = σ ((j - 289) / 2) := by omega
      have := h.2 _ _ (by omega) (by omega) this
      omega
    · split at e
      · have a2 := h.1 ((j - 312) / 3) (by omega); omega
      · omega
  · split at e
    · have a1 := h.1 ((i - 312) / 3) (by omega)
      split at e
      · have a2 := h.1 ((j - 289) / 2) (by omega); omega
      · split at e
        · have a2 := h.1 ((j - 312) / 3) (by omega)
          have : σ ((i - 312) / 3) = σ ((j - 312) / 3) := by omega
          have := h.2 _ _ (by omega) (by omega) this
          omega
        · omega
    · split at e
      · have a2 := h.1 ((j - 289) / 2) (by omega); omega
      · split at e
        · have a2 := h.1 ((j - 312) / 3) (by omega); omega
        · exact e
/-- a change that takes the names where they are -/
theorem zsg_of (nm : Nat → Nat) : ∀ nt, (∀ t, t < nt → nm t < 8) → (∀ t t', t < nt → t' < nt → nm t = nm t' → t = t') → nt ≤ 8 → ∃ σ, zsg σ ∧ ∀ t, t < nt → σ t = nm t
  | 0, _, _, _ => ⟨id, ⟨fun r h => h, fun r r' _ _ e => e⟩, fun t h => absurd h (Nat.not_lt_zero t)⟩
  | nt + 1, h1, h2, h8 => by
    obtain ⟨σ, ⟨s1, s2⟩, s3⟩ := zsg_of nm nt (fun t h => h1 t (by omega)) (fun t t' h h' => h2 t t' (by omega) (by omega)) (by omega)
    have hb := h1 nt (by omega)
    have ha := s1 nt (by omega)
    -- the two numbers changed about
    obtain ⟨f, hf⟩ : ∃ f : Nat → Nat, f = fun x => if x = σ nt then nm nt else if x = nm nt then σ nt else x := ⟨_, rfl⟩
    have f1 : ∀ x, x < 8 → f x < 8 := fun x hx => by
      rw [hf]; show (if x = σ nt then nm nt else if x = nm nt then σ nt else x) < 8
      split
      · exact hb
      · split
        · exact ha
        · exact hx
    have f2 : ∀ x y, f x = f y → x = y := fun x y e => by
      rw [hf] at e
      have e : (if x = σ nt then nm nt else if x = nm nt then σ nt else x) = (if y = σ nt then nm nt else if y = nm nt then σ nt else y) := e
      split at e
      · split at e
        · omega
        · split at e
          · omega
          · omega
      · split at e
        · split at e
          · omega
          · split at e
            · omega
            · omega
        · split at e
          · omega
          · split at e
            · omega
            · exact e
    refine ⟨fun r => f (σ r), ⟨fun r hr => f1 _ (s1 r hr), fun r r' hr hr' e => s2 r r' hr hr' (f2 _ _ e)⟩, fun t ht => ?_⟩
    show f (σ t) = nm t
    by_cases q : t = nt
    · subst q; rw [hf]; show (if σ t = σ t then nm t else _) = nm t; rw [if_pos rfl]
    · have e1 : σ t = nm t := s3 t (by omega)
      have n1 : ¬ σ t = σ nt := fun z => q (s2 t nt (by omega) (by omega) z)
      have n2 : ¬ nm t = nm nt := fun z => q (h2 t nt ht (by omega) z)
      rw [hf]
      show (if σ t = σ nt then nm nt else if σ t = nm nt then σ nt else σ t) = nm t
      rw [if_neg n1, e1, if_neg n2]
/-- one value stands for what another one stands for -/
def zsv (E E' : zen) (ad ad' : zam) (v v' : Nat) : Prop := ∀ x, zrel E ad v' x → zrel E' ad' v x
theorem zcr.sim {E E' : zen} {dA : Nat → ClassId} {ad ad' : zam} {c c' : zc} {X : va_E} (h1 : c'.1 = c.1) (h2 : c'.2.1 = c.2.1) (h3 : c.1 < 29) (hl : c'.2.2.length = c.2.2.length) (hv : ∀ (j v : Nat), c'.2.2[j]? = some v → ∃ v', c.2.2[j]? = some v' ∧ zsv E E' ad ad' v v') (h : zcr E dA ad c X) : zcr E' dA ad' c' X := by
  obtain ⟨t, l, vs⟩ := c
  obtain ⟨t', l', vs'⟩ := c'
  have h1 : t' = t := h1
  have h2 : l' = l := h2
  subst h1 h2
  have h3 : t' < 29 := h3
  obtain ⟨h0, h⟩ := h
  refine ⟨h0, ?_⟩
  have hr : ∀ (P : Nat → Value), (∀ (j v : Nat), vs[j]? = some v → zrel E ad v (P j)) → ∀ (j v : Nat), vs'[j]? = some v → zrel E' ad' v (P j) := fun P hp j v hj => by
    obtain ⟨v', k1, k2⟩ := hv j v hj
    exact k2 _ (hp j v' k1)
  rcases h with ⟨g1, fs, g2, g3⟩ | ⟨g1, f, g2, g3⟩ | ⟨g1, f, g2, g3⟩ | ⟨g1, f, g2, g3⟩ | ⟨g1, f, g2, g3⟩ | ⟨g1, h8, f, g2, g3⟩
  · refine Or.inl ⟨g1, fs, g2, ?_⟩
    have g3 : zall E ad vs fs := g3
    have hl : vs'.length = vs.length := hl
    refine ⟨by rw [← g3.1]; exact hl, fun j v hj => ?_⟩
    obtain ⟨v', k1, k2⟩ := hv j v hj
    obtain ⟨x, k3, k4⟩ := g3.2 j v' k1
    exact ⟨x, k3, k2 x k4⟩
  · exact Or.inr (Or.inl ⟨g1, f, g2, hr (fun j => .int (f j)) g3⟩)
  · exact Or.inr (Or.inr (Or.inl ⟨g1, f, g2, hr (fun j => .long (f j)) g3⟩))
  · exact Or.inr (Or.inr (Or.inr (Or.inl ⟨g1, f, g2, hr (fun j => .double (f j)) g3⟩)))
  · exact Or.inr (Or.inr (Or.inr (Or.inr (Or.inl ⟨g1, f, g2, hr (fun j => va_rf (f j)) g3⟩))))
  · exfalso
    have g1 : t' = 30 ∨ t' = 31 := g1
    omega
/-- what stands in a cell that no name touches: numbers, nulls, cells outside of the registers -/
def zpl (i : Nat) : Bool := (decide (289 ≤ i) && decide (i < 305)) || (decide (312 ≤ i) && decide (i < 336))
def zpv (v : Nat) : Bool := decide (v % 16 = 0) || decide (v % 16 = 2) || decide (v % 16 = 5) || decide (v % 16 = 6) || decide (v % 16 = 7) || (decide (v % 16 = 4) && !zpl (v / 16))
theorem zpm_out {σ : Nat → Nat} {i : Nat} (h : zpl i = false) : zpm σ i = i := by
  unfold zpl at h
  simp only [Bool.or_eq_false_iff, Bool.and_eq_false_iff, decide_eq_false_iff_not] at h
  unfold zpm
  rw [if_neg (by omega), if_neg (by omega)]
theorem zsv_o {E E' : zen} {ad : zam} {σ : Nat → Nat} (he : E'.2.1 = E.2.1) {v : Nat} (h : zpv v = true) : zsv E E' ad (ad.1, fun i => ad.2 (zpm σ i)) v v := by
  intro x r
  unfold zpv at h
  simp only [Bool.or_eq_true, Bool.and_eq_true, decide_eq_true_eq, Bool.not_eq_true'] at h
  rcases h with ((((h | h) | h) | h) | h) | ⟨h, hp⟩
  · exact (zr0 h x).mpr ((zr0 h x).mp r)
  · exact (zr2 h x).mpr ((zr2 h x).mp r)
  · exact (zr5 h x).mpr ((zr5 h x).mp r)
  · exact (zr6 h x).mpr (by rw [he]; exact (zr6 h x).mp r)
  · exact (zr7 h x).mpr ((zr7 h x).mp r)
  · refine (zr4 h x).mpr ?_
    show v / 16 < ad.1 ∧ x = .ref (ad.2 (zpm σ (v / 16)))
    rw [zpm_out hp]
    exact (zr4 h x).mp r
theorem zsv_4 {E E' : zen} {ad : zam} {σ : Nat → Nat} {a a' : Nat} (ha : a < ad.1) (h : zpm σ a = a') : zsv E E' ad (ad.1, fun i => ad.2 (zpm σ i)) (16 * a + 4) (16 * a' + 4) := by
  intro x r
  obtain ⟨r1, r2⟩ := (zr4 (v := 16 * a' + 4) (by omega) x).mp r
  refine (zr4 (v := 16 * a + 4) (by omega) x).mpr ⟨?_, ?_⟩
  · rw [show (16 * a + 4) / 16 = a by omega]; exact ha
  · rw [show (16 * a' + 4) / 16 = a' by omega] at r2
    show x = .ref (ad.2 (zpm σ ((16 * a + 4) / 16)))
    rw [show (16 * a + 4) / 16 = a by omega, h]
    exact r2

/-- what the heaps hold, place by place -/
noncomputable def zF1 (nt : Nat) : Bool := (List.range 338).all fun i => zpl i || (Nat.beq i 1 || (Nat.beq i 306 || (zeqc (zG (zHn nt).2.2.2 i) (zG zHp.2.2.2 i) && (Nat.ble (zG zHp.2.2.2 i).1 28 && (zG zHp.2.2.2 i).2.2.all zpv))))
noncomputable def zF2 (t : zT9) : Bool := (List.range 8).all fun r => zeqc (zG t (289 + 2 * r)) (7, 0, [16 * (290 + 2 * r) + 4, 0, 0]) && (zeqc (zG t (290 + 2 * r)) (20, 42, List.replicate 42 0) && (zeqc (zG t (312 + 3 * r)) (20, 4, List.replicate 4 0) && (zeqc (zG t (313 + 3 * r)) (9, 0, [0, 16 * (314 + 3 * r) + 4]) && zeqc (zG t (314 + 3 * r)) (20, 0, []))))
noncomputable def zF3 (nt : Nat) : Bool := zeqc (zG (zHn nt).2.2.2 1) (30, 8, (List.range nt).map fun t => 16 * (289 + 2 * t) + t) && (zeqc (zG (zHn nt).2.2.2 306) (31, 8, (List.range nt).map fun t => 16 * (313 + 3 * t) + t) && (Nat.beq (zHn nt).1 338 && (Nat.beq (zHn nt).2.1 zHp.2.1 && Nat.beq (zHn nt).2.2.1 zHp.2.2.1)))
theorem zF1_ok : ∀ nt, 1 ≤ nt → nt ≤ 4 → zF1 nt = true := by
  have h : zF1 1 = true ∧ zF1 2 = true ∧ zF1 3 = true ∧ zF1 4 = true := ⟨by decide +kernel, by decide +kernel, by decide +kernel, by decide +kernel⟩
  intro nt h1 h2
  have : nt = 1 ∨ nt = 2 ∨ nt = 3 ∨ nt = 4 := by omega
  rcases this with rfl | rfl | rfl | rfl
  · exact h.1
  · exact h.2.1
  · exact h.2.2.1
  · exact h.2.2.2
theorem zF2_ok : zF2 zHp.2.2.2 = true ∧ ∀ nt, 1 ≤ nt → nt ≤ 4 → zF2 (zHn nt).2.2.2 = true := by
  have h : zF2 (zHn 1).2.2.2 = true ∧ zF2 (zHn 2).2.2.2 = true ∧ zF2 (zHn 3).2.2.2 = true ∧ zF2 (zHn 4).2.2.2 = true := ⟨by decide +kernel, by decide +kernel, by decide +kernel, by decide +kernel⟩
  refine ⟨by decide +kernel, fun nt h1 h2 => ?_⟩
  have : nt = 1 ∨ nt = 2 ∨ nt = 3 ∨ nt = 4 := by omega
  rcases this with rfl | rfl | rfl | rfl
  · exact h.1
  · exact h.2.1
  · exact h.2.2.1
  · exact h.2.2.2
theorem zF3_ok : ∀ nt, 1 ≤ nt → nt ≤ 4 → zF3 nt = true := by
  have h : zF3 1 = true ∧ zF3 2 = true ∧ zF3 3 = true ∧ zF3 4 = true := ⟨by decide +kernel, by decide +kernel, by decide +kernel, by decide +kernel⟩
  intro nt h1 h2
  have : nt = 1 ∨ nt = 2 ∨ nt = 3 ∨ nt = 4 := by omega
  rcases this with rfl | rfl | rfl | rfl
  · exact h.1
  · exact h.2.1
  · exact h.2.2.1
  · exact h.2.2.2
theorem zF4_ok : zeqc (zG zHp.2.2.2 1) (25, 8, (List.range 8).map fun r => 16 * (289 + 2 * r) + 4) = true ∧ zeqc (zG zHp.2.2.2 306) (28, 8, (List.range 8).map fun r => 16 * (313 + 3 * r) + 4) = true := ⟨by decide +kernel, by decide +kernel⟩
/-- the rows of registers, by names -/
theorem zcr_names {E E' : zen} {dA : Nat → ClassId} {ad : zam} {X : va_E} {σ : Nat → Nat} {b s tg nt : Nat} (htg : tg = 25 ∨ tg = 28) (h : zcr E dA ad (tg, 8, (List.range 8).map fun r => 16 * (b + s * r) + 4) X) (hnt : E'.2.2.2 = nt) (h4 : nt ≤ 4) (hσ : zsg σ) (hn : ∀ t, t < nt → σ t = (E'.1 t).toNatClampNeg) (hp : ∀ t, t < 8 → zpm σ (b + s * t) = b + s * σ t) (hl : ∀ t, t < 8 → b + s * t < ad.1) :
    zcr E' dA (ad.1, fun i => ad.2 (zpm σ i)) ((if tg = 25 then 30 else 31), 8, (List.range nt).map fun t => 16 * (b + s * t) + t) X := by
  obtain ⟨h0, h⟩ := h
  refine ⟨by show 8 ≤ 65535; decide, ?_⟩
  rcases h with ⟨g1, -⟩ | ⟨g1, -⟩ | ⟨g1, -⟩ | ⟨g1, -⟩ | ⟨g1, f, g2, g3⟩ | ⟨g1, -⟩
  · have g1 : tg < 14 := g1; omega
  · have g1 : tg = 20 ∨ tg = 22 ∨ tg = 23 := g1; omega
  · have g1 : tg = 21 := g1; omega
  · have g1 : tg = 24 := g1; omega
  · refine Or.inr (Or.inr (Or.inr (Or.inr (Or.inr ⟨?_, rfl, f, ?_, fun w hw => ?_⟩))))
    · rcases htg with rfl | rfl
      · exact Or.inl rfl
      · exact Or.inr rfl
    · rcases htg with rfl | rfl
      · exact g2
      · exact g2
    · obtain ⟨t, ht, rfl⟩ := List.mem_map.mp hw
      have ht : t < nt := List.mem_range.mp ht
      have e1 : (16 * (b + s * t) + t) % 16 = t := by omega
      have e2 : (16 * (b + s * t) + t) / 16 = b + s * t := by omega
      rw [e1, e2]
      have h8 := hσ.1 t (by omega)
      refine ⟨by rw [hnt]; exact ht, hl t (by omega), ?_⟩
      show f (E'.1 t).toNatClampNeg = some (ad.2 (zpm σ (b + s * t)))
      rw [← hn t ht, hp t (by omega)]
      have k := g3 (σ t) (16 * (b + s * σ t) + 4) (by
        show ((List.range 8).map fun r => 16 * (b + s * r) + 4)[σ t]? = _
        rw [List.getElem?_map, List.getElem?_range h8]; rfl)
      obtain ⟨-, k2⟩ := (zr4 (v := 16 * (b + s * σ t) + 4) (by omega) _).mp k
      rw [show (16 * (b + s * σ t) + 4) / 16 = b + s * σ t by omega] at k2
      cases hf : f (σ t) with
      | none => rw [hf] at k2; cases k2
      | some a =>
        rw [hf] at k2
        have k3 : Value.ref a = Value.ref (ad.2 (b + s * σ t)) := k2
        cases k3
        rfl
  · have g1 : tg = 30 ∨ tg = 31 := g1; omega
theorem zall_get {l : List Nat} {f : Nat → Bool} (h : l.all f = true) {j v : Nat} (hj : l[j]? = some v) : f v = true := List.all_eq_true.mp h v (List.mem_of_getElem? hj)
theorem zrep_get {n d j v : Nat} (h : (List.replicate n d)[j]? = some v) : v = d := by
  rw [List.getElem?_replicate] at h
  split at h
  · exact (Option.some.inj h).symm
  · cases h
/-- the heap at the loop's head, seen with names for the registers -/
theorem zperm {E E' : zen} {D : va_G} {dA : Nat → ClassId} {base : Nat} {ad : zam} {H : Heap} {nt : Nat} (he : E'.2.1 = E.2.1) (hnt : E'.2.2.2 = nt) (h1 : 1 ≤ nt) (h4 : nt ≤ 4) (hE : zEok E') (h : zHR E D dA base ad zHp H) : ∃ σ, zsg σ ∧ ad.1 = 338 ∧ zHR E' D dA base (ad.1, fun i => ad.2 (zpm σ i)) (zHn nt) H := by
  obtain ⟨a1, a2, a3, a4, es, a5⟩ := h
  have a1 : ad.1 = 338 := a1
  obtain ⟨σ, hσ, hs⟩ := zsg_of (fun t => (E'.1 t).toNatClampNeg) nt (fun t ht => by
    obtain ⟨k1, k2⟩ := hE.1 t (by rw [hnt]; exact ht)
    show (E'.1 t).toInt.toNat < 8
    omega) (fun t t' ht ht' e => by
    obtain ⟨k1, k2⟩ := hE.1 t (by rw [hnt]; exact ht)
    obtain ⟨k3, k4⟩ := hE.1 t' (by rw [hnt]; exact ht')
    have e : (E'.1 t).toInt.toNat = (E'.1 t').toInt.toNat := e
    exact hE.2.1 t t' (by rw [hnt]; exact ht) (by rw [hnt]; exact ht') (Int32.toInt_inj.mp (by omega))) (by omega)
  have f1 := List.all_eq_true.mp (zF1_ok nt h1 h4)
  have f2 := List.all_eq_true.mp (zF2_ok.2 nt h1 h4)
  have f2p := List.all_eq_true.mp zF2_ok.1
  have f3 := zF3_ok nt h1 h4
  unfold zF3 at f3
  simp only [Bool.and_eq_true] at f3
  obtain ⟨f31, f32, f33, f34, f35⟩ := f3
  have f33 : (zHn nt).1 = 338 := zbeq f33
  refine ⟨σ, hσ, a1, by show ad.1 = (zHn nt).1; rw [f33, a1], by rw [f33]; decide, fun i j hi hj e => ?_, fun i hi => ?_, fun i => es (zpm σ i), fun i hi => ?_⟩
  · rw [f33] at hi hj
    exact zpm_inj hσ hi hj (a3 _ _ (zpm_lt hσ hi) (zpm_lt hσ hj) e)
  · rw [f33] at hi
    exact a4 _ (zpm_lt hσ hi)
  · rw [f33] at hi
    obtain ⟨b1, b2⟩ := a5 _ (zpm_lt hσ hi)
    refine ⟨?_, b2⟩
    show zcr E' dA (ad.1, fun i => ad.2 (zpm σ i)) (zG (zHn nt).2.2.2 i) (es (zpm σ i))
    have same : zG (zHn nt).2.2.2 i = zG zHp.2.2.2 (zpm σ i) → (zG zHp.2.2.2 (zpm σ i)).1 < 29 → (zG zHp.2.2.2 (zpm σ i)).2.2.all zpv = true → zcr E' dA (ad.1, fun i => ad.2 (zpm σ i)) (zG (zHn nt).2.2.2 i) (es (zpm σ i)) := fun q1 q2 q3 => by
      rw [q1]
      exact zcr.sim rfl rfl q2 rfl (fun j v hj => ⟨v, hj, zsv_o he (zall_get q3 hj)⟩) b1
    by_cases hb : zpl i = true
    · unfold zpl at hb
      simp only [Bool.or_eq_true, Bool.and_eq_true, decide_eq_true_eq] at hb
      rcases hb with hb | hb
      · -- the class's
        obtain ⟨r, hr, hir⟩ : ∃ r, r < 8 ∧ (i = 289 + 2 * r ∨ i = 290 + 2 * r) := ⟨(i - 289) / 2, by omega, by omega⟩
        have hr8 := hσ.1 r hr
        have k := f2 r (List.mem_range.mpr hr)
        have kp := f2p (σ r) (List.mem_range.mpr hr8)
        simp only [Bool.and_eq_true] at k kp
        rcases hir with rfl | rfl
        · have e : zpm σ (289 + 2 * r) = 289 + 2 * σ r := by
            unfold zpm
            rw [if_pos (by omega), show (289 + 2 * r - 289) / 2 = r by omega]
            omega
          have e2 : zpm σ (290 + 2 * r) = 290 + 2 * σ r := by
            unfold zpm
            rw [if_pos (by omega), show (290 + 2 * r - 289) / 2 = r by omega]
            omega
          rw [e] at b1 ⊢
          rw [zeqc_s kp.1] at b1
          rw [zeqc_s k.1]
          refine zcr.sim (c := (7, 0, [16 * (290 + 2 * σ r) + 4, 0, 0])) rfl rfl (by show 7 < 29; decide) rfl (fun j v hj => ?_) b1
          rcases j with _ | _ | _ | j
          · cases hj
            exact ⟨_, rfl, zsv_4 (by omega) e2⟩
          · cases hj
            exact ⟨0, rfl, zsv_o he rfl⟩
          · cases hj
            exact ⟨0, rfl, zsv_o he rfl⟩
          · cases hj
        · have e : zpm σ (290 + 2 * r) = 290 + 2 * σ r := by
            unfold zpm
            rw [if_pos (by omega), show (290 + 2 * r - 289) / 2 = r by omega]
            omega
          rw [e] at same ⊢
          rw [zeqc_s kp.2.1] at same
          exact same (zeqc_s k.2.1) (by show 20 < 29; decide) (by decide)
      · -- the reference's
        obtain ⟨r, hr, hir⟩ : ∃ r, r < 8 ∧ (i = 312 + 3 * r ∨ i = 313 + 3 * r ∨ i = 314 + 3 * r) := ⟨(i - 312) / 3, by omega, by omega⟩
        have hr8 := hσ.1 r hr
        have k := f2 r (List.mem_range.mpr hr)
        have kp := f2p (σ r) (List.mem_range.mpr hr8)
        simp only [Bool.and_eq_true] at k kp
        have e : ∀ d, d < 3 → zpm σ (312 + d + 3 * r) = 312 + d + 3 * σ r := fun d hd => by
          unfold zpm
          rw [if_neg (by omega), if_pos (by omega), show (312 + d + 3 * r - 312) / 3 = r by omega]
          omega
        rcases hir with rfl | rfl | rfl
        · have e := e 0 (by decide)
          have e : zpm σ (312 + 3 * r) = 312 + 3 * σ r := e
          rw [e] at same ⊢
          rw [zeqc_s kp.2.2.1] at same
          exact same (zeqc_s k.2.2.1) (by show 20 < 29; decide) (by decide)
        · have e2 := e 2 (by decide)
          have e2 : zpm σ (314 + 3 * r) = 314 + 3 * σ r := e2
          have e := e 1 (by decide)
          have e : zpm σ (313 + 3 * r) = 313 + 3 * σ r := e
          rw [e] at b1 ⊢
          rw [zeqc_s kp.2.2.2.1] at b1
          rw [zeqc_s k.2.2.2.1]
          refine zcr.sim (c := (9, 0, [0, 16 * (314 + 3 * σ r) + 4])) rfl rfl (by show 9 < 29; decide) rfl (fun j v hj => ?_) b1
          rcases j with _ | _ | j
          · cases hj
            exact ⟨0, rfl, zsv_o he rfl⟩
          · cases hj
            exact ⟨_, rfl, zsv_4 (by omega) e2⟩
          · cases hj
        · have e := e 2 (by decide)
          have e : zpm σ (314 + 3 * r) = 314 + 3 * σ r := e
          rw [e] at same ⊢
          rw [zeqc_s kp.2.2.2.2] at same
          exact same (zeqc_s k.2.2.2.2) (by show 20 < 29; decide) (by decide)
    · have hb : zpl i = false := by simpa using hb
      have hpm := zpm_out (σ := σ) hb
      have k := f1 i (List.mem_range.mpr hi)
      by_cases q1 : i = 1
      · subst q1
        rw [hpm] at b1 ⊢
        rw [zeqc_s zF4_ok.1] at b1
        rw [zeqc_s f31]
        refine zcr_names (Or.inl rfl) b1 hnt h4 hσ hs (fun t ht => ?_) (fun t ht => by omega)
        unfold zpm
        rw [if_pos (by omega), show (289 + 2 * t - 289) / 2 = t by omega]
        omega
      · by_cases q2 : i = 306
        · subst q2
          rw [hpm] at b1 ⊢
          rw [zeqc_s zF4_ok.2] at b1
          rw [zeqc_s f32]
          refine zcr_names (Or.inr rfl) b1 hnt h4 hσ hs (fun t ht => ?_) (fun t ht => by omega)
          unfold zpm
          rw [if_neg (by omega), if_pos (by omega), show (313 + 3 * t - 312) / 3 = t by omega]
          omega
        · have n1 : Nat.beq i 1 = false := by
            cases z : Nat.beq i 1 with
            | false => rfl
            | true => exact absurd (zbeq z) q1
          have n2 : Nat.beq i 306 = false := by
            cases z : Nat.beq i 306 with
            | false => rfl
            | true => exact absurd (zbeq z) q2
          rw [hb, n1, n2] at k
          simp only [Bool.false_or, Bool.and_eq_true] at k
          rw [hpm] at same ⊢
          have k1 := zeqc_s k.1
          exact same k1 (Nat.lt_succ_of_le (zble k.2.1)) k.2.2
end Perm
