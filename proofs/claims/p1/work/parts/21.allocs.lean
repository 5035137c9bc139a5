section Allocs
variable {m pc nx : Nat} {md : zMD}
theorem zloc.mono {E : zen} {ad ad' : zam} {nL : Nat} {l : List Nat} {ls : Array Slot} (hl : zle ad ad') (h : zloc E ad nL l ls) : zloc E ad' nL l ls :=
  ⟨h.1, h.2.1, h.2.2.1, fun j v h1 h2 => by obtain ⟨x, h3, h4⟩ := h.2.2.2 j v h1 h2; exact ⟨x, h3, h4.mono hl⟩⟩
theorem zA_up {G : zgl} {s : State} (h : zE0 G s) : ∀ q, s.heap.size ≤ q → zA G q := fun q hq => Nat.le_trans h.2.1 hq
theorem zref {E : zen} {n : Nat} {f : Nat → Nat} : zrel E (n + 1, fun i => if i = n then f n else f i) (Nat.add (Nat.mul n 16) 4) (.ref (f n)) := by
  have e : Nat.add (Nat.mul n 16) 4 = 16 * n + 4 := congrArg (· + 4) (Nat.mul_comm n 16)
  rw [e]
  refine (zr4 (by omega) _).mpr ?_
  rw [show (16 * n + 4) / 16 = n by omega]
  exact ⟨Nat.lt_succ_self n, by simp⟩
theorem zrefq {E : zen} {n q : Nat} {f : Nat → Nat} : zrel E (n + 1, fun i => if i = n then q else f i) (Nat.add (Nat.mul n 16) 4) (.ref q) := by
  have e : Nat.add (Nat.mul n 16) 4 = 16 * n + 4 := congrArg (· + 4) (Nat.mul_comm n 16)
  rw [e]
  refine (zr4 (by omega) _).mpr ?_
  rw [show (16 * n + 4) / 16 = n by omega]
  exact ⟨Nat.lt_succ_self n, by simp⟩
def zNwRow (ci len : Nat) (fsV : List Value) (m pc nx : Nat) : Prop := ∀ (p : Program) (l : Launch) (e : Env) (R : Room) (s : State) (mid : MethodId) (args : Array Value) (below : List Frame) (meth : Method) (cc : Code) (H : Heap) (locs : List Loc) (cells slots : Nat) (Q : State → Prop) (lsA : Array Slot) (rest : List Value) (D : va_G) (tys : List (ClassId × FieldType)) (ws : va_W) (A : Nat → Prop), zF m p s mid args meth cc → va_K D zcls tys s → va_P D zcls ws H → va_D A ws → va_S A s.heap H locs → (∀ q, s.heap.size ≤ q → A q) → cells + 1 ≤ R.cells → slots + len ≤ R.slots → (∀ (q : Nat) (H1 : Heap), va_P D zcls (ws ++ [(q, .inr (ci, fsV))]) H1 → va_D A (ws ++ [(q, .inr (ci, fsV))]) → va_S A s.heap H1 locs → W p l e R s mid args below meth cc H1 locs (cells + 1) (slots + len) Q (F0 mid nx lsA (.ref q :: rest))) → W p l e R s mid args below meth cc H locs cells slots Q (F0 mid pc lsA rest)
theorem zrow_new {ci N index : Nat} {C : String} {T : u_T} {ty0 : Nat → FieldType} {fsV : List Value} (hm : zM m = some md) (hd : decode md.2.1 pc = .ok (.new index, 3)) (hn : pc + 3 = nx) (hc : zcls[ci]? = some (C, T, N)) (hin : ∀ w ∈ u_ws C T N, w ∈ zTg) (hty : ∀ k, k < N → parseFieldDescriptor (T k).2.2.1 = some (ty0 k)) (hcl : Cond.classLink md.1.cls index C ∈ zTg) (hinst : Cond.instantiable C N ∈ zTg) (hini : Cond.initialized C ∈ zTg) (hfs : ∀ j, j < N → defaultValue (ty0 j) = vp_V fsV j) : zNwRow ci N fsV m pc nx := by
  subst hn
  intro p l e R s mid args below meth cc H locs cells slots Q lsA rest D tys ws A hF hK hP hD hS hA h1 h2 k
  obtain ⟨hx, hb, -, hown, hts, -⟩ := hF.of hm
  exact va_new hx hb hts hin ty0 hty hown (hts _ hcl) (hts _ hinst) (hts _ hini) hK hP hD hS hA hc hfs h1 h2 hd k
theorem ok_new0 {ci len : Nat} {fs : List Nat} {fsV : List Value} (hci : ci < 14) (hfs : ∀ E ad, zall E ad fs fsV) (row : zNwRow ci len fsV m pc nx) : zOK zPre m pc (s_new ci len fs nx) := by
  intro G ctx ih hG hN hP hI dep ls st h o ho
  obtain ⟨hlt, h3⟩ := znewc_s ho
  obtain ⟨k1, k2⟩ := hI m nx dep ls _ _ o h3
  have z1 : h.1 + 1 ≤ o.2.2.1 := k1.1
  have z2 : h.2.1 + 1 ≤ o.2.2.2.1 := k1.2.1
  have z3 : h.2.2.1 + len ≤ o.2.2.2.2.1 := k1.2.2
  refine ⟨⟨by omega, by omega, by omega⟩, fun p e R s mid args below meth cc H locs cells slots Q ad lsA vals q1 q2 q3 q4 q5 q6 q7 q8 => ?_⟩
  obtain ⟨-, -, g3, g4, es, g5⟩ := id q4
  obtain ⟨y1, y2, y3, y4⟩ := q7
  refine row p G.1 e R s mid args below meth cc H locs cells slots Q lsA vals G.2.2.1 _ (zws h.1 ad es) (zA G) q1 (zK1 (zK hP q2)) (zws_P fun i hi => (g5 i hi).2) (zws_D g3 g4) q3 (zA_up q2) (by omega) (by omega) fun q H1 p1 p2 p3 => ?_
  obtain ⟨w1, w2⟩ := zHR.add (len := len) (c := (ci, 0, fs)) (zHRn q4) (fun i hi => (g5 i hi).1) hlt ⟨by show (0 : Nat) ≤ 65535; omega, Or.inl ⟨hci, fsV, rfl, hfs _ _⟩⟩ p1 p2
  exact k2 p e R s mid args below meth cc H1 locs (cells + 1) (slots + len) Q _ lsA (.ref q :: vals) q1 q2 p3 w2 (q5.mono w1) (zall.cons zrefq (q6.mono w1)) ⟨y1, y2, by show cells + 1 + (o.2.2.2.1 - (h.2.1 + 1)) ≤ R.cells; omega, by show slots + len + (o.2.2.2.2.1 - (h.2.2.1 + len)) ≤ R.slots; omega⟩ (q8.step w1 (by show cells + 1 + (o.2.2.2.1 - (h.2.1 + 1)) = cells + (o.2.2.2.1 - h.2.1); omega) (by show slots + len + (o.2.2.2.2.1 - (h.2.2.1 + len)) = slots + (o.2.2.2.2.1 - h.2.2.1); omega))
-- rows
def zdef (tg : Nat) : (Nat → Int32) ⊕ (Nat → Int64) ⊕ (Nat → UInt32) ⊕ (Nat → UInt64) ⊕ (Nat → Option Nat) := match tg with
  | 20 => .inl (fun _ => 0)
  | 22 => .inl (fun _ => 0)
  | 23 => .inl (fun _ => 0)
  | 21 => .inr (.inl (fun _ => 0))
  | 24 => .inr (.inr (.inr (.inl (fun _ => 0))))
  | _ => zrf (fun _ => none)
def zNaRow (tg m pc nx : Nat) : Prop := ∀ (p : Program) (l : Launch) (e : Env) (R : Room) (s : State) (mid : MethodId) (args : Array Value) (below : List Frame) (meth : Method) (cc : Code) (H : Heap) (locs : List Loc) (cells slots : Nat) (Q : State → Prop) (lsA : Array Slot) (rest : List Value) (D : va_G) (tys : List (ClassId × FieldType)) (ws : va_W) (A : Nat → Prop) (n : Nat), zF m p s mid args meth cc → va_K D zcls tys s → va_P D zcls ws H → va_D A ws → va_S A s.heap H locs → (∀ q, s.heap.size ≤ q → A q) → n ≤ 65535 → cells + 1 ≤ R.cells → slots + n ≤ R.slots → (∀ (q : Nat) (cA : ClassId) (H1 : Heap), s.vm.findClass ("[" ++ (ztyp tg).toString) = some cA → va_P D zcls (ws ++ [(q, .inl (cA, n, zdef tg))]) H1 → va_D A (ws ++ [(q, .inl (cA, n, zdef tg))]) → va_S A s.heap H1 locs → W p l e R s mid args below meth cc H1 locs (cells + 1) (slots + n) Q (F0 mid nx lsA (.ref q :: rest))) → W p l e R s mid args below meth cc H locs cells slots Q (F0 mid pc lsA (.int (nI n) :: rest))
theorem zRA_fc {s : State} {c : ClassId} {ty : FieldType} (h : va_RA s c ty) : s.vm.findClass ("[" ++ ty.toString) = some c := by
  cases ty with
  | object C => obtain ⟨kA, comp, h1, h2, h3, h4⟩ := h; exact h4
  | _ => exact h
theorem zlast {α : Type} (l : List α) (x : α) : (l ++ [x])[l.length]? = some x := by simp

theorem zrow_na20 (hm : zM m = some md) (hd : decode md.2.1 pc = .ok (.newarray .int, 2)) (hn : pc + 2 = nx) (harr : Cond.arrayClass .int ∈ zTg) : zNaRow 20 m pc nx := by
  subst hn
  intro p l e R s mid args below meth cc H locs cells slots Q lsA rest D tys ws A n hF hK hP hD hS hA hn h1 h2 k
  obtain ⟨hx, hb, -, hown, hts, -⟩ := hF.of hm
  exact va_newa (atype := .int) (ty := .int) (N' := n) (a0 := (n, zdef 20)) hx hb (hts _ harr) rfl hK hP hD hS hA (fun cA => rfl) (nI_pos (by omega)) (nI_clamp (by omega)) (by show n * 4 ≤ 536870912; omega) h1 h2 hd fun q cA H1 z1 z2 z3 z4 => k q cA H1 (zRA_fc (z1.2 tys.length _ (zlast _ _)).2) z2 z3 z4
theorem zrow_na21 (hm : zM m = some md) (hd : decode md.2.1 pc = .ok (.newarray .long, 2)) (hn : pc + 2 = nx) (harr : Cond.arrayClass .long ∈ zTg) : zNaRow 21 m pc nx := by
  subst hn
  intro p l e R s mid args below meth cc H locs cells slots Q lsA rest D tys ws A n hF hK hP hD hS hA hn h1 h2 k
  obtain ⟨hx, hb, -, hown, hts, -⟩ := hF.of hm
  exact va_newa (atype := .long) (ty := .long) (N' := n) (a0 := (n, zdef 21)) hx hb (hts _ harr) rfl hK hP hD hS hA (fun cA => rfl) (nI_pos (by omega)) (nI_clamp (by omega)) (by show n * 8 ≤ 536870912; omega) h1 h2 hd fun q cA H1 z1 z2 z3 z4 => k q cA H1 (zRA_fc (z1.2 tys.length _ (zlast _ _)).2) z2 z3 z4
theorem zrow_na22 (hm : zM m = some md) (hd : decode md.2.1 pc = .ok (.newarray .byte, 2)) (hn : pc + 2 = nx) (harr : Cond.arrayClass .byte ∈ zTg) : zNaRow 22 m pc nx := by
  subst hn
  intro p l e R s mid args below meth cc H locs cells slots Q lsA rest D tys ws A n hF hK hP hD hS hA hn h1 h2 k
  obtain ⟨hx, hb, -, hown, hts, -⟩ := hF.of hm
  exact va_newa (atype := .byte) (ty := .byte) (N' := n) (a0 := (n, zdef 22)) hx hb (hts _ harr) rfl hK hP hD hS hA (fun cA => rfl) (nI_pos (by omega)) (nI_clamp (by omega)) (by show n * 1 ≤ 536870912; omega) h1 h2 hd fun q cA H1 z1 z2 z3 z4 => k q cA H1 (zRA_fc (z1.2 tys.length _ (zlast _ _)).2) z2 z3 z4
theorem zrow_na23 (hm : zM m = some md) (hd : decode md.2.1 pc = .ok (.newarray .char, 2)) (hn : pc + 2 = nx) (harr : Cond.arrayClass .char ∈ zTg) : zNaRow 23 m pc nx := by
  subst hn
  intro p l e R s mid args below meth cc H locs cells slots Q lsA rest D tys ws A n hF hK hP hD hS hA hn h1 h2 k
  obtain ⟨hx, hb, -, hown, hts, -⟩ := hF.of hm
  exact va_newa (atype := .char) (ty := .char) (N' := n) (a0 := (n, zdef 23)) hx hb (hts _ harr) rfl hK hP hD hS hA (fun cA => rfl) (nI_pos (by omega)) (nI_clamp (by omega)) (by show n * 2 ≤ 536870912; omega) h1 h2 hd fun q cA H1 z1 z2 z3 z4 => k q cA H1 (zRA_fc (z1.2 tys.length _ (zlast _ _)).2) z2 z3 z4
theorem zrow_na24 (hm : zM m = some md) (hd : decode md.2.1 pc = .ok (.newarray .double, 2)) (hn : pc + 2 = nx) (harr : Cond.arrayClass .double ∈ zTg) : zNaRow 24 m pc nx := by
  subst hn
  intro p l e R s mid args below meth cc H locs cells slots Q lsA rest D tys ws A n hF hK hP hD hS hA hn h1 h2 k
  obtain ⟨hx, hb, -, hown, hts, -⟩ := hF.of hm
  exact va_newa (atype := .double) (ty := .double) (N' := n) (a0 := (n, zdef 24)) hx hb (hts _ harr) rfl hK hP hD hS hA (fun cA => rfl) (nI_pos (by omega)) (nI_clamp (by omega)) (by show n * 8 ≤ 536870912; omega) h1 h2 hd fun q cA H1 z1 z2 z3 z4 => k q cA H1 (zRA_fc (z1.2 tys.length _ (zlast _ _)).2) z2 z3 z4
theorem zrow_naO {tg index : Nat} {C : String} (htg : ztyp tg = .object C) (hzd : zdef tg = zrf (fun _ => none)) (hm : zM m = some md) (hd : decode md.2.1 pc = .ok (.anewarray index, 3)) (hn : pc + 3 = nx) (hcl : Cond.classLink md.1.cls index C ∈ zTg) (hov : Cond.arrayOver (.object C) ∈ zTn) : zNaRow tg m pc nx := by
  subst hn
  intro p l e R s mid args below meth cc H locs cells slots Q lsA rest D tys ws A n hF hK hP hD hS hA hn h1 h2 k
  obtain ⟨hx, hb, -, hown, hts, -, -, -, -, htn⟩ := hF.of hm
  rw [htg, hzd] at k
  exact va_newq (N' := n) hx hb hown (hts _ hcl) (va_AO.of (htn _ hov)) hK hP hD hS hA (nI_pos (by omega)) (nI_clamp (by omega)) (by omega) h1 h2 hd fun q cA H1 z1 z2 z3 z4 => k q cA H1 (zRA_fc (z1.2 tys.length _ (zlast _ _)).2) z2 z3 z4
theorem zdef_r {E : zen} {dA : Nat → ClassId} {ad : zam} {tg d n : Nat} {cA : ClassId} (htg : 20 ≤ tg ∧ tg ≤ 28) (hd : d = if tg = 21 then 2 else if tg = 24 then 7 else if tg ≤ 24 then 0 else 5) (hn : n ≤ 65535) (hcA : cA = dA tg) : zcr E dA ad (tg, n, List.replicate n d) (.inl (cA, n, zdef tg)) := by
  have hr : ∀ (j v : Nat), (List.replicate n d)[j]? = some v → v = d := fun j v h => by
    rw [List.getElem?_replicate] at h
    split at h
    · exact (Option.some.inj h).symm
    · cases h
  subst hcA
  refine ⟨hn, ?_⟩
  have : tg = 20 ∨ tg = 21 ∨ tg = 22 ∨ tg = 23 ∨ tg = 24 ∨ tg = 25 ∨ tg = 26 ∨ tg = 27 ∨ tg = 28 := by omega
  rcases this with rfl | rfl | rfl | rfl | rfl | rfl | rfl | rfl | rfl
  · exact Or.inr (Or.inl ⟨by simp, _, rfl, fun j v h => by rw [hr j v h, hd]; exact zn0' (a := 0) (by decide)⟩)
  · exact Or.inr (Or.inr (Or.inl ⟨rfl, _, rfl, fun j v h => by rw [hr j v h, hd]; exact zn2' (a := 0) (by decide)⟩))
  · exact Or.inr (Or.inl ⟨by simp, _, rfl, fun j v h => by rw [hr j v h, hd]; exact zn0' (a := 0) (by decide)⟩)
  · exact Or.inr (Or.inl ⟨by simp, _, rfl, fun j v h => by rw [hr j v h, hd]; exact zn0' (a := 0) (by decide)⟩)
  · exact Or.inr (Or.inr (Or.inr (Or.inl ⟨rfl, _, rfl, fun j v h => by rw [hr j v h, hd]; exact zn7 (n := 0)⟩)))
  all_goals exact Or.inr (Or.inr (Or.inr (Or.inr (Or.inl ⟨by simp, _, rfl, fun j v h => by rw [hr j v h, hd]; exact (zr5 (v := 5) rfl _).mpr rfl⟩))))
theorem ok_na0 {tg d : Nat} (htg : 20 ≤ tg ∧ tg ≤ 28) (hd : d = if tg = 21 then 2 else if tg = 24 then 7 else if tg ≤ 24 then 0 else 5) (row : zNaRow tg m pc nx) : zOK zPre m pc (s_na tg d nx) := by
  intro G ctx ih hG hN hP hI dep ls st h o ho
  obtain ⟨x, t, rfl, h9⟩ := zLs ho
  obtain ⟨b1, h9⟩ := zB h9
  obtain ⟨b2, h9⟩ := zB h9
  have b2 : Nat.shiftRight x 4 ≤ 65535 := zble b2
  rw [zrep_s, List.append_nil] at h9
  obtain ⟨hlt, h3⟩ := znewc_s h9
  rw [zs4] at b2 h3
  obtain ⟨k1, k2⟩ := hI m nx dep ls _ _ o h3
  have z1 : h.1 + 1 ≤ o.2.2.1 := k1.1
  have z2 : h.2.1 + 1 ≤ o.2.2.2.1 := k1.2.1
  have z3 : h.2.2.1 + x / 16 ≤ o.2.2.2.2.1 := k1.2.2
  refine ⟨⟨by omega, by omega, by omega⟩, fun p e R s mid args below meth cc H locs cells slots Q ad lsA vals q1 q2 q3 q4 q5 q6 q7 q8 => ?_⟩
  obtain ⟨X, vals, rfl, r1, hvs⟩ := q6.inv
  obtain ⟨n, rfl, hn, rfl⟩ := zn0 (zkq b1) r1
  rw [zq16] at b2 k2 z3
  obtain ⟨-, -, g3, g4, es, g5⟩ := id q4
  obtain ⟨y1, y2, y3, y4⟩ := q7
  refine row p G.1 e R s mid args below meth cc H locs cells slots Q lsA vals G.2.2.1 _ (zws h.1 ad es) (zA G) n q1 (zK1 (zK hP q2)) (zws_P fun i hi => (g5 i hi).2) (zws_D g3 g4) q3 (zA_up q2) b2 (by omega) (by omega) fun q cA H1 p0 p1 p2 p3 => ?_
  have hcA : cA = G.2.2.2.1 tg := Option.some.inj (p0.symm.trans (zRA_fc ((zK hP q2).2 _ _ (ztys_at htg.1 (by omega))).2))
  obtain ⟨w1, w2⟩ := zHR.add (len := n) (c := (tg, n, List.replicate n d)) (zHRn q4) (fun i hi => (g5 i hi).1) hlt (zdef_r htg hd b2 hcA) p1 p2
  exact k2 p e R s mid args below meth cc H1 locs (cells + 1) (slots + n) Q _ lsA (.ref q :: vals) q1 q2 p3 w2 (q5.mono w1) (zall.cons zrefq (hvs.mono w1)) ⟨y1, y2, by show cells + 1 + (o.2.2.2.1 - (h.2.1 + 1)) ≤ R.cells; omega, by show slots + n + (o.2.2.2.2.1 - (h.2.2.1 + n)) ≤ R.slots; omega⟩ (q8.step w1 (by show cells + 1 + (o.2.2.2.1 - (h.2.1 + 1)) = cells + (o.2.2.2.1 - h.2.1); omega) (by show slots + n + (o.2.2.2.2.1 - (h.2.2.1 + n)) = slots + (o.2.2.2.2.1 - h.2.2.1); omega))
theorem zrow_na27 {index : Nat} (hm : zM m = some md) (hd : decode md.2.1 pc = .ok (.anewarray index, 3)) (hn : pc + 3 = nx) (hcl : Cond.classLink md.1.cls index (FieldType.array .int).toString ∈ zTg) (hov : Cond.arrayOver (.array .int) ∈ zTn) : zNaRow 27 m pc nx := by
  subst hn
  intro p l e R s mid args below meth cc H locs cells slots Q lsA rest D tys ws A n hF hK hP hD hS hA hn h1 h2 k
  obtain ⟨hx, hb, -, hown, hts, -, -, -, -, htn⟩ := hF.of hm
  have hcl' : (nI n).toNatClampNeg = n := nI_clamp (by omega)
  refine W.anewA hx hb hown (hts _ hcl) (htn _ hov) rfl hd rfl (nI_pos (by omega)) (by rw [hcl']; omega) h1 (by rw [hcl']; exact h2) fun cA kA comp f1 f2 f3 f4 => ?_
  rw [hcl']
  generalize hH1 : H.push ({ cls := cA, slots := Array.replicate n .null, vm := .none } : Cell) = H1
  have z1 : H1.size = H.size + 1 := by rw [← hH1, Array.size_push]
  have e1 : H1[H.size]? = some (arrV cA n (fun _ => .null)) := by rw [← hH1, Array.getElem?_push_size, ← arrV_new]
  have o1 : ∀ q : Nat, q < H.size → H1[q]? = H[q]? := fun q hq => by rw [← hH1, Array.getElem?_push, if_neg (Nat.ne_of_lt hq)]
  have hk : ∀ (k : Nat) (x : Nat × va_E), ws[k]? = some x → H1[x.1]? = H[x.1]? := fun k x hx => o1 x.1 ((hP k x hx).lt)
  refine k H.size cA H1 f1 ((hP.kept hk).app (fun k x hx => ?_)) (hD.push hP rfl (hA _ hS.1)) ⟨Nat.le_trans hS.1 (by omega), fun x h1 h2 => (o1 x (Nat.lt_of_lt_of_le h1 hS.1)).trans (hS.2.1 x h1 h2), hS.2.2⟩
  have hz : k < 1 := (List.getElem?_eq_some_iff.mp hx).1
  rw [show k = 0 by omega] at hx
  cases hx
  exact e1
-- Object's constructor
theorem zsm_s {k : zR} {o : zo} : ∀ {st : List Nat} {n : Nat}, zsm st n k = some o → k = some o ∧ ∀ (E : zen) (ad : zam) (vals : List Value), zEok E → zall E ad st vals → (vals.map fun v => v.category).sum ≤ n := by
  intro st
  induction st with
  | nil => exact fun h => ⟨h, fun E ad vals hG hv => by rw [hv.inil]; simp⟩
  | cons a t ih =>
    intro n h
    cases n with
    | zero => cases h
    | succ n =>
      rcases zc01 h with ⟨c1, h⟩ | ⟨c1, h⟩
      · rw [zl15] at c1
        obtain ⟨h1, h2⟩ := ih h
        refine ⟨h1, fun E ad vals hG hv => ?_⟩
        obtain ⟨X, vals, rfl, r1, hv⟩ := hv.inv
        have := h2 E ad vals hG hv
        simp only [List.map_cons, List.sum_cons, zcat1 hG c1 r1]
        omega
      · rw [zl15] at c1
        cases n with
        | zero => cases h
        | succ n =>
          obtain ⟨h1, h2⟩ := ih h
          refine ⟨h1, fun E ad vals hG hv => ?_⟩
          obtain ⟨X, vals, rfl, r1, hv⟩ := hv.inv
          have := h2 E ad vals hG hv
          simp only [List.map_cons, List.sum_cons, zcat2 c1 r1]
          omega
theorem ok_oi {index : Nat} (hm : zM m = some md) (hd : decode md.2.1 pc = .ok (.invokespecial index, 3)) (hn : pc + 3 = nx) (hlink : Cond.methodLink md.1.cls index Lib.objectInit ∈ zTg) (hinst : Cond.instanceMethod Lib.objectInit ∈ zTg) (hcode : Cond.code Lib.objectInit ⟨#[0xb1]⟩ 1 none ∈ zTg) : zOK zPre m pc (s_oi nx) := by
  subst hn
  intro G ctx ih hG hN hP hI dep ls st h o ho
  obtain ⟨r, t, rfl, h9⟩ := zLs ho
  obtain ⟨b1, h9⟩ := zB h9
  obtain ⟨h3, hsm⟩ := zsm_s h9
  obtain ⟨k1, k2⟩ := hI m (pc + 3) dep ls t h o h3
  refine ⟨k1, fun p e R s mid args below meth cc H locs cells slots Q ad lsA vals q1 q2 q3 q4 q5 q6 q7 q8 => ?_⟩
  obtain ⟨X, vals, rfl, r1, hvs⟩ := q6.inv
  obtain ⟨l1, rfl⟩ := (zr4 (zkq b1) X).mp r1
  obtain ⟨hx, hb, -, hown, hts, -⟩ := q1.of hm
  have hs : _ ≤ 8 := hsm G.2.1 ad vals hG hvs
  obtain ⟨y1, y2, -, -⟩ := id q7
  refine W.objInit (g := F0 mid pc lsA (.ref (ad.2 (r / 16)) :: vals)) hx hb hown (hts _ hlink) (hts _ hinst) (hts _ hcode) rfl q5.1 rfl hd (by omega) (by show 2 * 0 + _ + 12 ≤ R.locals; omega) (k2 p e R s mid args below meth cc H locs cells slots Q ad lsA vals q1 q2 q3 q4 q5 hvs q7 q8)
end Allocs
