-- the trie
def zgood (T : Type) (d : Nat) (g : T → Nat → (zc → zR) → zR) (p : T → Nat → zc → (T → zR) → zR) (G : T → Nat → zc) (P : T → Nat → zc → T) : Prop :=
  (∀ t i k, g t i k = k (G t i)) ∧ (∀ t i c k, p t i c k = k (P t i c)) ∧ ∀ t i c j, i < 2 ^ d → j < 2 ^ d → G (P t i c) j = if i = j then c else G t j
def zgG {T : Type} (G : T → Nat → zc) (t : T × T) (i : Nat) : zc := if i % 2 = 0 then G t.1 (i / 2) else G t.2 (i / 2)
def zgP {T : Type} (P : T → Nat → zc → T) (t : T × T) (i : Nat) (c : zc) : T × T := if i % 2 = 0 then (P t.1 (i / 2) c, t.2) else (t.1, P t.2 (i / 2) c)
theorem zl1 (v : Nat) : Nat.land v 1 = v % 2 := Nat.and_two_pow_sub_one_eq_mod v 1
theorem zs1 (v : Nat) : Nat.shiftRight v 1 = v / 2 := Nat.shiftRight_eq_div_pow v 1
theorem zNif {α : Sort _} (n : Nat) (x y : α) : @Nat.rec (fun _ => α) x (fun _ _ => y) n = if n = 0 then x else y := by
  cases n with
  | zero => exact (if_pos rfl).symm
  | succ j => exact (if_neg (Nat.succ_ne_zero j)).symm
theorem zgood_s {T : Type} {d : Nat} {g : T → Nat → (zc → zR) → zR} {p : T → Nat → zc → (T → zR) → zR} {G : T → Nat → zc} {P : T → Nat → zc → T} (h : zgood T d g p G P) : zgood (T × T) (d + 1) (zg g) (zp p) (zgG G) (zgP P) := by
  obtain ⟨h1, h2, h3⟩ := h
  refine ⟨?_, ?_, ?_⟩
  · rintro ⟨a, b⟩ i k
    show @Nat.rec (fun _ => zR) (g a (Nat.shiftRight i 1) k) (fun _ _ => g b (Nat.shiftRight i 1) k) (Nat.land i 1) = _
    rw [zNif, zl1, zs1, h1, h1]
    unfold zgG
    by_cases q : i % 2 = 0 <;> simp [q]
  · rintro ⟨a, b⟩ i c k
    show @Nat.rec (fun _ => zR) (p a (Nat.shiftRight i 1) c (fun a' => k (a', b))) (fun _ _ => p b (Nat.shiftRight i 1) c (fun b' => k (a, b'))) (Nat.land i 1) = _
    rw [zNif, zl1, zs1, h2, h2]
    unfold zgP
    by_cases q : i % 2 = 0 <;> simp [q]
  · rintro ⟨a, b⟩ i c j hi hj
    have e : 2 ^ (d + 1) = 2 * 2 ^ d := by rw [Nat.pow_succ, Nat.mul_comm]
    have hi2 : i / 2 < 2 ^ d := by omega
    have hj2 : j / 2 < 2 ^ d := by omega
    unfold zgG zgP
    by_cases q : i % 2 = 0 <;> by_cases r : j % 2 = 0
    · simp only [q, r, if_true]
      rw [h3 a _ c _ hi2 hj2]
      by_cases z : i = j
      · subst z; simp
      · have : ¬ i / 2 = j / 2 := by omega
        simp [z, this]
    · have : ¬ i = j := by omega
      simp [q, r, this]
    · have : ¬ i = j := by omega
      simp [q, r, this]
    · simp only [q, r, if_false]
      rw [h3 b _ c _ hi2 hj2]
      by_cases z : i = j
      · subst z; simp
      · have : ¬ i / 2 = j / 2 := by omega
        simp [z, this]
theorem zgood_0 : zgood zc 0 zg0 zp0 (fun t _ => t) (fun _ _ c => c) := ⟨fun _ _ _ => rfl, fun _ _ _ _ => rfl, fun t i c j hi hj => by
  have : i = j := by omega
  simp [this]⟩
def zG : zT9 → Nat → zc := zgG (zgG (zgG (zgG (zgG (zgG (zgG (zgG (zgG (fun t _ => t)))))))))
def zP : zT9 → Nat → zc → zT9 := zgP (zgP (zgP (zgP (zgP (zgP (zgP (zgP (zgP (fun _ _ c => c)))))))))
theorem zgood_9 : zgood zT9 9 zget zset zG zP := zgood_s (zgood_s (zgood_s (zgood_s (zgood_s (zgood_s (zgood_s (zgood_s (zgood_s zgood_0))))))))
theorem zget_s (t : zT9) (i : Nat) (k : zc → zR) : zget t i k = k (zG t i) := zgood_9.1 t i k
theorem zset_s (t : zT9) (i : Nat) (c : zc) (k : zT9 → zR) : zset t i c k = k (zP t i c) := zgood_9.2.1 t i c k
theorem zGP (t : zT9) (i : Nat) (c : zc) (j : Nat) (hi : i < 512) (hj : j < 512) : zG (zP t i c) j = if i = j then c else zG t j := zgood_9.2.2 t i c j hi hj
-- the heap
theorem zcel_s {h : zh} {a : Nat} {k : Nat → Nat → List Nat → zR} {o : zo} (q : zcel h a k = some o) : a < h.1 ∧ k (zG h.2.2.2 a).1 (zG h.2.2.2 a).2.1 (zG h.2.2.2 a).2.2 = some o := by
  obtain ⟨n, cs, sl, t⟩ := h
  have q : @Bool.rec (fun _ => zR) none (zget t a fun c => k c.1 c.2.1 c.2.2) (Nat.ble (Nat.succ a) n) = some o := q
  obtain ⟨h1, h2⟩ := zB q
  rw [zget_s] at h2
  exact ⟨Nat.le_of_ble_eq_true h1, h2⟩
theorem zsetc_s (h : zh) (a : Nat) (c : zc) (k : zh → zR) : zsetc h a c k = k (h.1, h.2.1, h.2.2.1, zP h.2.2.2 a c) := by
  obtain ⟨n, cs, sl, t⟩ := h
  exact zset_s t a c _
theorem znewc_s {h : zh} {c : zc} {len : Nat} {k : Nat → zh → zR} {o : zo} (q : znewc h c len k = some o) : h.1 < 512 ∧ k h.1 (h.1 + 1, h.2.1 + 1, h.2.2.1 + len, zP h.2.2.2 h.1 c) = some o := by
  obtain ⟨n, cs, sl, t⟩ := h
  have q : @Bool.rec (fun _ => zR) none (zset t n c fun t' => k n (Nat.succ n, Nat.succ cs, Nat.add sl len, t')) (Nat.ble (Nat.succ n) 512) = some o := q
  obtain ⟨h1, h2⟩ := zB q
  rw [zset_s] at h2
  exact ⟨Nat.le_of_ble_eq_true h1, h2⟩
/-- the classes of which the run makes objects -/
def zcls : List vw_C := [(RX0, TX0, 12), (RX1, TX1, 3), (RX2, TX2, 11), (RX3, TX3, 6), (RX4, TX4, 3), (RX6, TX6, 3), (RX7, TX7, 15), (RX8, TX8, 3), (RX9, TX9, 10), (RX10, TX10, 2), (RX11, TX11, 6), (RJ4, TJ4, 4), (RJx4a65c, TJx4a65c, 3), (RJx35411, TJx35411, 4)]
/-- a list of values, and what they are -/
def zall (e : zen) (ad : zam) (vs : List Nat) (xs : List Value) : Prop := vs.length = xs.length ∧ ∀ (j v : Nat), vs[j]? = some v → ∃ x, xs[j]? = some x ∧ zrel e ad v x
theorem zall.nil {e : zen} {ad : zam} : zall e ad [] [] := ⟨rfl, fun j v h => by simp at h⟩
theorem zall.cons {e : zen} {ad : zam} {v : Nat} {x : Value} {vs : List Nat} {xs : List Value} (h : zrel e ad v x) (t : zall e ad vs xs) : zall e ad (v :: vs) (x :: xs) := by
  refine ⟨by simp [t.1], fun j w hj => ?_⟩
  cases j with
  | zero => simp at hj; subst hj; exact ⟨x, rfl, h⟩
  | succ j => exact t.2 j w (by simpa using hj)
theorem zall.inv {e : zen} {ad : zam} {v : Nat} {vs : List Nat} {ys : List Value} (h : zall e ad (v :: vs) ys) : ∃ x xs, ys = x :: xs ∧ zrel e ad v x ∧ zall e ad vs xs := by
  obtain ⟨h1, h2⟩ := h
  cases ys with
  | nil => simp at h1
  | cons x xs =>
    refine ⟨x, xs, rfl, ?_, by simpa using h1, fun j w hj => ?_⟩
    · obtain ⟨y, hy, hr⟩ := h2 0 v rfl
      simp at hy; subst hy; exact hr
    · exact h2 (j + 1) w (by simpa using hj)
theorem zall.inil {e : zen} {ad : zam} {ys : List Value} (h : zall e ad [] ys) : ys = [] := by
  have h1 : ([] : List Nat).length = ys.length := h.1
  exact List.length_eq_zero_iff.mp h1.symm
theorem zall.mono {e : zen} {ad ad' : zam} {vs : List Nat} {xs : List Value} (hl : zle ad ad') (h : zall e ad vs xs) : zall e ad' vs xs := ⟨h.1, fun j v hj => by obtain ⟨x, h1, h2⟩ := h.2 j v hj; exact ⟨x, h1, h2.mono hl⟩⟩
theorem zall.app {e : zen} {ad : zam} {ws : List Nat} {ys : List Value} (h2 : zall e ad ws ys) : ∀ {vs : List Nat} {xs : List Value}, zall e ad vs xs → zall e ad (vs ++ ws) (xs ++ ys)
  | [], xs, h => by rw [h.inil]; exact h2
  | v :: vs, _, h => by
    obtain ⟨x, xs, rfl, h1, h3⟩ := h.inv
    exact zall.cons h1 (zall.app h2 h3)
theorem zall.split {e : zen} {ad : zam} : ∀ {vs ws : List Nat} {zs : List Value}, zall e ad (vs ++ ws) zs → ∃ xs ys, zs = xs ++ ys ∧ zall e ad vs xs ∧ zall e ad ws ys
  | [], ws, zs, h => ⟨[], zs, rfl, zall.nil, h⟩
  | v :: vs, ws, zs, h => by
    obtain ⟨x, xs, rfl, h1, h3⟩ := zall.inv h
    obtain ⟨as, bs, rfl, h4, h5⟩ := zall.split h3
    exact ⟨x :: as, bs, rfl, zall.cons h1 h4, h5⟩
theorem zall.rev {e : zen} {ad : zam} : ∀ {vs : List Nat} {xs : List Value}, zall e ad vs xs → zall e ad vs.reverse xs.reverse
  | [], _, h => by rw [h.inil]; exact zall.nil
  | v :: vs, _, h => by
    obtain ⟨x, xs, rfl, h1, h3⟩ := h.inv
    rw [List.reverse_cons, List.reverse_cons]
    exact zall.app (zall.cons h1 zall.nil) (zall.rev h3)
theorem zall.set {e : zen} {ad : zam} {vs : List Nat} {xs : List Value} {i v : Nat} {x : Value} (h : zall e ad vs xs) (hv : zrel e ad v x) : zall e ad (vs.set i v) (xs.set i x) := by
  refine ⟨by simp [h.1], fun j w hj => ?_⟩
  rw [List.getElem?_set] at hj
  rw [List.getElem?_set]
  by_cases q : i = j
  · subst q
    have hl : i < vs.length := by
      by_cases z : i < vs.length
      · exact z
      · simp [z] at hj
    have hl2 : i < xs.length := by rw [← h.1]; exact hl
    simp [hl] at hj
    subst hj
    exact ⟨x, by simp [hl2], hv⟩
  · simp [q] at hj
    obtain ⟨y, h1, h2⟩ := h.2 j w hj
    exact ⟨y, by simp [q, h1], h2⟩
abbrev zrf (f : Nat → Option Nat) : (Nat → Int32) ⊕ (Nat → Int64) ⊕ (Nat → UInt32) ⊕ (Nat → UInt64) ⊕ (Nat → Option Nat) := .inr (.inr (.inr (.inr f)))
/-- a cell, and what the machine's cell is -/
def zcr (e : zen) (dA : Nat → ClassId) (ad : zam) (c : zc) (E : va_E) : Prop := c.2.1 ≤ 65535 ∧ (
  (c.1 < 14 ∧ ∃ fs, E = .inr (c.1, fs) ∧ zall e ad c.2.2 fs) ∨
  ((c.1 = 20 ∨ c.1 = 22 ∨ c.1 = 23) ∧ ∃ f : Nat → Int32, E = .inl (dA c.1, c.2.1, .inl f) ∧ ∀ (j v : Nat), c.2.2[j]? = some v → zrel e ad v (.int (f j))) ∨
  (c.1 = 21 ∧ ∃ f : Nat → Int64, E = .inl (dA 21, c.2.1, .inr (.inl f)) ∧ ∀ (j v : Nat), c.2.2[j]? = some v → zrel e ad v (.long (f j))) ∨
  (c.1 = 24 ∧ ∃ f : Nat → UInt64, E = .inl (dA 24, c.2.1, .inr (.inr (.inr (.inl f)))) ∧ ∀ (j v : Nat), c.2.2[j]? = some v → zrel e ad v (.double (f j))) ∨
  ((25 ≤ c.1 ∧ c.1 ≤ 28) ∧ ∃ f : Nat → Option Nat, E = .inl (dA c.1, c.2.1, zrf f) ∧ ∀ (j v : Nat), c.2.2[j]? = some v → zrel e ad v (va_rf (f j))) ∨
  ((c.1 = 30 ∨ c.1 = 31) ∧ c.2.1 = 8 ∧ ∃ f : Nat → Option Nat, E = .inl (dA (if c.1 = 30 then 25 else 28), 8, zrf f) ∧ ∀ w ∈ c.2.2, w % 16 < e.2.2.2 ∧ w / 16 < ad.1 ∧ f (e.1 (w % 16)).toNatClampNeg = some (ad.2 (w / 16))))
theorem zcr.mono {e : zen} {dA : Nat → ClassId} {ad ad' : zam} {c : zc} {E : va_E} (hl : zle ad ad') (h : zcr e dA ad c E) : zcr e dA ad' c E := by
  obtain ⟨h0, h⟩ := h
  refine ⟨h0, ?_⟩
  rcases h with ⟨h1, fs, h2, h3⟩ | ⟨h1, f, h2, h3⟩ | ⟨h1, f, h2, h3⟩ | ⟨h1, f, h2, h3⟩ | ⟨h1, f, h2, h3⟩ | ⟨h1, h8, f, h2, h3⟩
  · exact Or.inl ⟨h1, fs, h2, h3.mono hl⟩
  · exact Or.inr (Or.inl ⟨h1, f, h2, fun j v q => (h3 j v q).mono hl⟩)
  · exact Or.inr (Or.inr (Or.inl ⟨h1, f, h2, fun j v q => (h3 j v q).mono hl⟩))
  · exact Or.inr (Or.inr (Or.inr (Or.inl ⟨h1, f, h2, fun j v q => (h3 j v q).mono hl⟩)))
  · exact Or.inr (Or.inr (Or.inr (Or.inr (Or.inl ⟨h1, f, h2, fun j v q => (h3 j v q).mono hl⟩))))
  · exact Or.inr (Or.inr (Or.inr (Or.inr (Or.inr ⟨h1, h8, f, h2, fun w q => by obtain ⟨a, b, c⟩ := h3 w q; exact ⟨a, Nat.lt_of_lt_of_le b hl.1, by rw [hl.2 _ b]; exact c⟩⟩))))
/-- the heap: where the cells lie, and what they are -/
def zHR (e : zen) (D : va_G) (dA : Nat → ClassId) (base : Nat) (ad : zam) (h : zh) (H : Heap) : Prop :=
  ad.1 = h.1 ∧ h.1 ≤ 512 ∧ (∀ i j, i < h.1 → j < h.1 → ad.2 i = ad.2 j → i = j) ∧ (∀ i, i < h.1 → base ≤ ad.2 i) ∧ ∃ es : Nat → va_E, ∀ i, i < h.1 → zcr e dA ad (zG h.2.2.2 i) (es i) ∧ va_at D zcls (ad.2 i, es i) H
/-- the world's list -/
def zws (n : Nat) (ad : zam) (es : Nat → va_E) : va_W := (List.range n).map fun i => (ad.2 i, es i)
theorem zws_at {n i : Nat} {ad : zam} {es : Nat → va_E} (h : i < n) : (zws n ad es)[i]? = some (ad.2 i, es i) := by
  simp [zws, h]
theorem zws_inv {n i : Nat} {ad : zam} {es : Nat → va_E} {q : Nat × va_E} (h : (zws n ad es)[i]? = some q) : i < n ∧ q = (ad.2 i, es i) := by
  by_cases z : i < n
  · rw [zws_at z] at h; exact ⟨z, (Option.some.inj h).symm⟩
  · simp [zws, z] at h
theorem zws_P {n : Nat} {D : va_G} {ad : zam} {es : Nat → va_E} {H : Heap} (h : ∀ i, i < n → va_at D zcls (ad.2 i, es i) H) : va_P D zcls (zws n ad es) H := fun k q hk => by
  obtain ⟨h1, rfl⟩ := zws_inv hk
  exact h k h1
theorem zws_D {n base : Nat} {ad : zam} {es : Nat → va_E} (hi : ∀ i j, i < n → j < n → ad.2 i = ad.2 j → i = j) (hb : ∀ i, i < n → base ≤ ad.2 i) : va_D (fun q => base ≤ q) (zws n ad es) :=
  ⟨fun i j p q h1 h2 h3 => by
    obtain ⟨a1, rfl⟩ := zws_inv h1
    obtain ⟨a2, rfl⟩ := zws_inv h2
    exact hi i j a1 a2 h3, fun k q hk => by obtain ⟨a1, rfl⟩ := zws_inv hk; exact hb k a1⟩
/-- a cell is changed -/
theorem zHR.put {e : zen} {D : va_G} {dA : Nat → ClassId} {base : Nat} {ad : zam} {h : zh} {H1 : Heap} {es : Nat → va_E} {a : Nat} {c : zc} {E : va_E} (hn : ad.1 = h.1 ∧ h.1 ≤ 512 ∧ (∀ i j, i < h.1 → j < h.1 → ad.2 i = ad.2 j → i = j) ∧ (∀ i, i < h.1 → base ≤ ad.2 i)) (hes : ∀ i, i < h.1 → zcr e dA ad (zG h.2.2.2 i) (es i)) (ha : a < h.1) (hc : zcr e dA ad c E)
    (hP : va_P D zcls ((zws h.1 ad es).set a (ad.2 a, E)) H1) : zHR e D dA base ad (h.1, h.2.1, h.2.2.1, zP h.2.2.2 a c) H1 := by
  obtain ⟨h1, h2, h3, h4⟩ := hn
  refine ⟨h1, h2, h3, h4, fun i => if a = i then E else es i, fun i hi => ?_⟩
  have hi : i < h.1 := hi
  have hg : zG (zP h.2.2.2 a c) i = if a = i then c else zG h.2.2.2 i := zGP _ _ _ _ (by omega) (by omega)
  show zcr e dA ad (zG (zP h.2.2.2 a c) i) (if a = i then E else es i) ∧ _
  rw [hg]
  have hl : a < (zws h.1 ad es).length := by simp [zws, ha]
  by_cases q : a = i
  · subst q
    rw [if_pos rfl, if_pos rfl]
    refine ⟨hc, ?_⟩
    show va_at D zcls (ad.2 a, if a = a then E else es a) H1
    rw [if_pos rfl]
    exact hP a _ (by rw [List.getElem?_set]; simp [hl])
  · rw [if_neg q, if_neg q]
    refine ⟨hes i hi, ?_⟩
    show va_at D zcls (ad.2 i, if a = i then E else es i) H1
    rw [if_neg q]
    exact hP i _ (by rw [List.getElem?_set]; simp [q]; exact zws_at hi)
/-- a cell more -/
theorem zHR.add {e : zen} {D : va_G} {dA : Nat → ClassId} {base : Nat} {ad : zam} {h : zh} {H1 : Heap} {es : Nat → va_E} {c : zc} {E : va_E} {q len : Nat} (hn : ad.1 = h.1 ∧ h.1 ≤ 512 ∧ (∀ i j, i < h.1 → j < h.1 → ad.2 i = ad.2 j → i = j) ∧ (∀ i, i < h.1 → base ≤ ad.2 i)) (hes : ∀ i, i < h.1 → zcr e dA ad (zG h.2.2.2 i) (es i)) (hlt : h.1 < 512)
    (hc : zcr e dA (h.1 + 1, fun i => if i = h.1 then q else ad.2 i) c E) (hP : va_P D zcls (zws h.1 ad es ++ [(q, E)]) H1) (hD : va_D (fun q => base ≤ q) (zws h.1 ad es ++ [(q, E)])) :
    zle ad (h.1 + 1, fun i => if i = h.1 then q else ad.2 i) ∧ zHR e D dA base (h.1 + 1, fun i => if i = h.1 then q else ad.2 i) (h.1 + 1, h.2.1 + 1, h.2.2.1 + len, zP h.2.2.2 h.1 c) H1 := by
  obtain ⟨h1, h2, h3, h4⟩ := hn
  have hle : zle ad (h.1 + 1, fun i => if i = h.1 then q else ad.2 i) := ⟨by show ad.1 ≤ h.1 + 1; omega, fun i hi => by
    have : ¬ i = h.1 := by omega
    show (if i = h.1 then q else ad.2 i) = _
    rw [if_neg this]⟩
  have hlen : (zws h.1 ad es).length = h.1 := by simp [zws]
  have hat : ∀ i, i < h.1 + 1 → (zws h.1 ad es ++ [(q, E)])[i]? = some ((if i = h.1 then q else ad.2 i), (if i = h.1 then E else es i)) := fun i hi => by
    by_cases z : i = h.1
    · subst z
      rw [List.getElem?_append_right (by omega), hlen]
      simp
    · rw [List.getElem?_append_left (by omega), zws_at (by omega), if_neg z, if_neg z]
  refine ⟨hle, rfl, by show h.1 + 1 ≤ 512; omega, fun i j hi hj hij => ?_, fun i hi => ?_, fun i => if i = h.1 then E else es i, fun i hi => ⟨?_, ?_⟩⟩
  · exact hD.1 i j _ _ (hat i hi) (hat j hj) hij
  · exact hD.2 i _ (hat i hi)
  · have hi : i < h.1 + 1 := hi
    have hg : zG (zP h.2.2.2 h.1 c) i = if h.1 = i then c else zG h.2.2.2 i := zGP _ _ _ _ (by omega) (by omega)
    show zcr e dA _ (zG (zP h.2.2.2 h.1 c) i) (if i = h.1 then E else es i)
    rw [hg]
    by_cases z : i = h.1
    · rw [if_pos z.symm, if_pos z]
      exact hc
    · rw [if_neg (fun w => z w.symm), if_neg z]
      exact (hes i (by omega)).mono hle
  · exact hP i _ (hat i hi)
theorem zHR.lt {e : zen} {D : va_G} {dA : Nat → ClassId} {base : Nat} {ad : zam} {h : zh} {H : Heap} (q : zHR e D dA base ad h H) {i : Nat} (hi : i < h.1) : ad.2 i < H.size := by
  obtain ⟨-, -, -, -, es, he⟩ := q
  exact (he i hi).2.lt
theorem zHR.kept {e : zen} {D : va_G} {dA : Nat → ClassId} {base : Nat} {ad : zam} {h : zh} {H H1 : Heap} (q : zHR e D dA base ad h H) (hk : ∀ q, q < H.size → H1[q]? = H[q]?) : zHR e D dA base ad h H1 := by
  obtain ⟨h1, h2, h3, h4, es, he⟩ := q
  exact ⟨h1, h2, h3, h4, es, fun i hi => ⟨(he i hi).1, (he i hi).2.kept (hk _ (he i hi).2.lt)⟩⟩
