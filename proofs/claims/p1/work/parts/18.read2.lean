section Read2
variable {m pc nx : Nat} {md : zMD}
def zGfRow (ci i m pc nx : Nat) : Prop := ∀ (p : Program) (l : Launch) (e : Env) (R : Room) (s : State) (mid : MethodId) (args : Array Value) (below : List Frame) (meth : Method) (cc : Code) (H : Heap) (locs : List Loc) (cells slots : Nat) (Q : State → Prop) (lsA : Array Slot) (rest : List Value) (D : va_G) (tys : List (ClassId × FieldType)) (a : Nat) (fs : List Value) (v : Value), zF m p s mid args meth cc → va_K D zcls2 tys s → va_P D zcls2 [(a, .inr (ci, fs))] H → fs[i]? = some v → W p l e R s mid args below meth cc H locs cells slots Q (F0 mid nx lsA (v :: rest)) → W p l e R s mid args below meth cc H locs cells slots Q (F0 mid pc lsA (.ref a :: rest))
/-- a field that the entry names through another class -/
theorem zvia {args : Array Value} {s : State} {ref own n d : String} (hts : ∀ w ∈ zTg, w.before args s = true) (hr : ref = own ∨ Cond.sameField ref own n d ∈ zTg) : ∀ x, s.fieldFound? own n d = some x → s.fieldFound? ref n d = some x := by
  intro x hx
  rcases hr with rfl | hr
  · exact hx
  · have w := hts _ hr
    cases hq : s.fieldFound? ref n d with
    | none => simp [Cond.before, Cond.holds, Cond.value, hq] at w
    | some y => obtain ⟨c1, k1, i1, f1⟩ := y; rw [Cond.sameField_spec hq w] at hx; exact hx
theorem zrow_gf {ci i N index : Nat} {C ref : String} {T : u_T} (hm : zM m = some md) (hd : decode md.2.1 pc = .ok (.getfield index, 3)) (hn : pc + 3 = nx) (hc : zcls2[ci]? = some (C, T, N)) (hk : i < N) (hin : ∀ w ∈ u_ws C T N, w ∈ zTg) (hlink : Cond.fieldLink md.1.cls index ref (T i).2.1 (T i).2.2.1 ∈ zTg) (hr : ref = (T i).1 ∨ Cond.sameField ref (T i).1 (T i).2.1 (T i).2.2.1 ∈ zTg) : zGfRow ci i m pc nx := by
  subst hn
  intro p l e R s mid args below meth cc H locs cells slots Q lsA rest D tys a fs v hF hK hP hv k
  obtain ⟨hx, hb, -, hown, hts, -⟩ := hF.of hm
  exact va_get hx hb hts hin hown hK hP 0 (by rfl) hc i hk (hts _ hlink) (zvia hts hr) hv hd k
theorem zrow_gfN {ci i N index : Nat} {C ref host : String} {T : u_T} (hm : zM m = some md) (hd : decode md.2.1 pc = .ok (.getfield index, 3)) (hn : pc + 3 = nx) (hc : zcls2[ci]? = some (C, T, N)) (hk : i < N) (hin : ∀ w ∈ u_ws C T N, w ∈ zTg) (hlink : Cond.fieldLinkNest md.1.cls index ref (T i).2.1 (T i).2.2.1 host ∈ zTn) (hr : ref = (T i).1 ∨ Cond.sameField ref (T i).1 (T i).2.1 (T i).2.2.1 ∈ zTg) : zGfRow ci i m pc nx := by
  subst hn
  intro p l e R s mid args below meth cc H locs cells slots Q lsA rest D tys a fs v hF hK hP hv k
  obtain ⟨hx, hb, -, hown, hts, -, -, -, -, htn⟩ := hF.of hm
  exact va_getN hx hb hts hin hown hK hP 0 (by rfl) hc i hk (htn _ hlink) (zvia hts hr) hv hd k
def zGxRow (ci i m pc nx : Nat) : Prop := ∀ (p : Program) (l : Launch) (e : Env) (R : Room) (s : State) (mid : MethodId) (args : Array Value) (below : List Frame) (meth : Method) (cc : Code) (H : Heap) (locs : List Loc) (cells slots : Nat) (Q : State → Prop) (lsA : Array Slot) (rest : List Value) (A : Nat → Prop) (a : Nat) (v : Value) (r : vw_C), zF m p s mid args meth cc → zcls2[ci]? = some r → va_OF (r.2.1 i).1 (r.2.1 i).2.1 (r.2.1 i).2.2.1 v a A s s.heap → va_S A s.heap H locs → W p l e R s mid args below meth cc H locs cells slots Q (F0 mid nx lsA (v :: rest)) → W p l e R s mid args below meth cc H locs cells slots Q (F0 mid pc lsA (.ref a :: rest))
theorem zrow_gx {ci i N index : Nat} {C ref : String} {T : u_T} (hm : zM m = some md) (hd : decode md.2.1 pc = .ok (.getfield index, 3)) (hn : pc + 3 = nx) (hc : zcls2[ci]? = some (C, T, N)) (hlink : Cond.fieldLink md.1.cls index ref (T i).2.1 (T i).2.2.1 ∈ zTg) (hr : ref = (T i).1 ∨ Cond.sameField ref (T i).1 (T i).2.1 (T i).2.2.1 ∈ zTg) : zGxRow ci i m pc nx := by
  subst hn
  intro p l e R s mid args below meth cc H locs cells slots Q lsA rest A a v r hF hr2 hE hS k
  obtain ⟨hx, hb, -, hown, hts, -⟩ := hF.of hm
  cases hc.symm.trans hr2
  exact vk_getf hx hb hE hS hown (hts _ hlink) (zvia hts hr) hd k
theorem ok_gf0 {ci i : Nat} (hci : ci < 14) (row : zGfRow ci i m pc nx) : zOK zPre m pc (s_gf ci i nx) := by
  intro G ctx ih hG hN hP hI dep ls st h o ho
  obtain ⟨r, t, rfl, h9⟩ := zLs ho
  obtain ⟨c, ho, hc⟩ := zcell_s h9
  obtain ⟨b1, ho⟩ := zB ho
  have b1 : c.1 = ci := zbeq b1
  obtain ⟨v, hv, ho⟩ := zlg_s ho
  obtain ⟨h3, h4⟩ := hI m nx dep ls (v :: t) h o ho
  refine ⟨h3, fun p e R s mid args below meth cc H locs cells slots Q ad lsA vals q1 q2 q3 q4 q5 q6 q7 q8 => ?_⟩
  obtain ⟨X, vals, rfl, r1, hvs⟩ := q6.inv
  rcases hc G ctx s ad H locs X hP q2 q3 q4 r1 (by omega) with ⟨a, E, rfl, k1, k2⟩ | ⟨kk, -, rfl, -, ⟨z, -⟩ | ⟨z, -⟩⟩
  obtain ⟨-, ⟨-, fs, rfl, hfs⟩ | ⟨z, -⟩ | ⟨z, -⟩ | ⟨z, -⟩ | ⟨z, -⟩ | ⟨z, -⟩⟩ := k1
  · rw [b1] at k2
    obtain ⟨x, hx, hr⟩ := hfs.2 i v hv
    exact row p G.1 e R s mid args below meth cc H locs cells slots Q lsA vals G.2.2.1 _ a fs x q1 (zK hP q2) k2 hx (h4 p e R s mid args below meth cc H locs cells slots Q ad lsA (x :: vals) q1 q2 q3 q4 q5 (zall.cons hr hvs) q7 q8)
  all_goals (exfalso; omega)
theorem ok_gf6 {ci i : Nat} (hci : 14 ≤ ci ∧ ci < 16) (row : zGxRow ci i m pc nx) : zOK zPre m pc (s_gf ci i nx) := by
  intro G ctx ih hG hN hP hI dep ls st h o ho
  obtain ⟨r, t, rfl, h9⟩ := zLs ho
  obtain ⟨c, ho, hc⟩ := zcell_s h9
  obtain ⟨b1, ho⟩ := zB ho
  have b1 : c.1 = ci := zbeq b1
  obtain ⟨v, hv, ho⟩ := zlg_s ho
  obtain ⟨h3, h4⟩ := hI m nx dep ls (v :: t) h o ho
  refine ⟨h3, fun p e R s mid args below meth cc H locs cells slots Q ad lsA vals q1 q2 q3 q4 q5 q6 q7 q8 => ?_⟩
  obtain ⟨X, vals, rfl, r1, hvs⟩ := q6.inv
  rcases hc G ctx s ad H locs X hP q2 q3 q4 r1 (by omega) with ⟨a, E, rfl, k1, k2⟩ | ⟨kk, -, rfl, -, ⟨z, z2, r, hr, hO, hF⟩ | ⟨z, -⟩⟩
  · exfalso
    obtain ⟨-, ⟨z, -⟩ | ⟨z, -⟩ | ⟨z, -⟩ | ⟨z, -⟩ | ⟨z, -⟩ | ⟨z, -⟩⟩ := k1 <;> omega
  · obtain ⟨x, hx, hE⟩ := hF i v hv
    rw [b1] at hr
    exact row p G.1 e R s mid args below meth cc H locs cells slots Q lsA vals (zA G) _ x r q1 hr (zXo_F q2 hE) q3 (h4 p e R s mid args below meth cc H locs cells slots Q ad lsA (x :: vals) q1 q2 q3 q4 q5 (zall.cons (hx ad) hvs) q7 q8)
  · exfalso; omega
-- an array's length
theorem zalen_s {G : zgl} {ctx : zctx} {ad : zam} {c : zc} {E : va_E} (h : zcr G.2.1 G.2.2.2.1 ad c E) (h20 : 20 ≤ c.1) : ∃ (t0 : Nat) (cA : ClassId) (ty : FieldType) (x : vp_A), E = .inl (cA, x) ∧ x.1 = c.2.1 ∧ (ztys G.2.2.2.1)[t0]? = some (cA, ty) := by
  obtain ⟨-, ⟨z, -⟩ | ⟨z, f, rfl, -⟩ | ⟨z, f, rfl, -⟩ | ⟨z, f, rfl, -⟩ | ⟨z, f, rfl, -⟩ | ⟨z, z8, f, rfl, -⟩⟩ := h
  · exfalso; omega
  · exact ⟨_, _, _, _, rfl, rfl, ztys_at h20 (by omega)⟩
  · exact ⟨_, _, _, _, rfl, rfl, ztys_at (k := 21) (by omega) (by omega)⟩
  · exact ⟨_, _, _, _, rfl, rfl, ztys_at (k := 24) (by omega) (by omega)⟩
  · exact ⟨_, _, _, _, rfl, rfl, ztys_at h20 (by omega)⟩
  · refine ⟨_, _, _, _, rfl, z8.symm, ztys_at (k := if c.1 = 30 then 25 else 28) ?_ ?_⟩ <;> (split <;> omega)
theorem zlen {n : Nat} {E : zen} {ad : zam} (h : n < 4294967296) : zrel E ad (Nat.mul n 16) (.int (Int32.ofNat n)) := by
  have : Nat.mul n 16 = 16 * n := Nat.mul_comm n 16
  rw [this]; exact zn0' h
theorem zscr {G : zgl} {ctx : zctx} {s : State} (h0 : zE0 G s) {b L : Nat} {xs : Nat → Int32} (h : va_X b L xs G.2.2.2.2 G.2.2.2.2.heap) : va_X b L xs s s.heap ∧ b < s.heap.size ∧ ¬ zA G b := by
  obtain ⟨scr, k1, k2⟩ := id h
  have hb : b < G.2.2.2.2.heap.size := (Array.getElem?_eq_some_iff.mp k1).1
  exact ⟨(h.moved h0.1.alike).kept (h0.2.2 b hb), Nat.lt_of_lt_of_le hb h0.2.1, fun z => by have z : G.2.2.2.2.heap.size ≤ b := z; omega⟩
theorem ok_al (hm : zM m = some md) (hd : decode md.2.1 pc = .ok (.arraylength, 1)) (hn : pc + 1 = nx) : zOK zPre m pc (s_al nx) := by
  subst hn
  intro G ctx ih hG hN hP hI dep ls st h o ho
  obtain ⟨r, t, rfl, ho⟩ := zLs ho
  rcases zBc ho with ⟨b1, ho⟩ | ⟨-, ho⟩
  · have b1 : r = 6 := zbeq b1
    subst b1
    obtain ⟨h3, h4⟩ := hI m (pc + 1) dep ls (zti ctx.2.length :: t) h o ho
    refine ⟨h3, fun p e R s mid args below meth cc H locs cells slots Q ad lsA vals q1 q2 q3 q4 q5 q6 q7 q8 => ?_⟩
    obtain ⟨X, vals, rfl, r1, hvs⟩ := q6.inv
    obtain rfl := (zr6 (v := 6) rfl X).mp r1
    obtain ⟨hx, hb, -⟩ := q1.of hm
    obtain ⟨xs, k1, k2, k3⟩ := hP.2.2.1
    obtain ⟨w1, w2, w3⟩ := zscr (ctx := ctx) q2 k1
    exact va_slen hx hb w1 w2 w3 q3 hd (h4 p e R s mid args below meth cc H locs cells slots Q ad lsA _ q1 q2 q3 q4 q5 (zall.cons (zlen (by omega)) hvs) q7 q8)
  · obtain ⟨c, ho, hc⟩ := zcell_s ho
    obtain ⟨b1, ho⟩ := zB ho
    obtain ⟨b2, ho⟩ := zB ho
    have b1 : 20 ≤ c.1 := zble b1
    have b2 : c.1 ≤ 31 := zble b2
    obtain ⟨h3, h4⟩ := hI m (pc + 1) dep ls (Nat.mul c.2.1 16 :: t) h o ho
    refine ⟨h3, fun p e R s mid args below meth cc H locs cells slots Q ad lsA vals q1 q2 q3 q4 q5 q6 q7 q8 => ?_⟩
    obtain ⟨X, vals, rfl, r1, hvs⟩ := q6.inv
    rcases hc G ctx s ad H locs X hP q2 q3 q4 r1 (by omega) with ⟨a, E, rfl, k1, k2⟩ | ⟨kk, -, rfl, z0, ⟨z, z2, -⟩ | ⟨z, f, hT, -⟩⟩
    rotate_left
    · exfalso; omega
    · obtain ⟨hx, hb, -⟩ := q1.of hm
      exact va_tlen hx hb (zXa_T q2 hT) q3 rfl hd (h4 p e R s mid args below meth cc H locs cells slots Q ad lsA _ q1 q2 q3 q4 q5 (zall.cons (zlen (by omega)) hvs) q7 q8)
    obtain ⟨t0, cA, ty, x, rfl, e1, e2⟩ := zalen_s (ctx := ctx) k1 b1
    obtain ⟨hx, hb, -⟩ := q1.of hm
    exact va_alen hx hb (zK hP q2) k2 0 t0 (by rfl) e2 (congrArg Int32.ofNat e1) hd (h4 p e R s mid args below meth cc H locs cells slots Q ad lsA _ q1 q2 q3 q4 q5 (zall.cons (zlen (by have := k1.1; omega)) hvs) q7 q8)
theorem ok_sld (hm : zM m = some md) (hd : decode md.2.1 pc = .ok (.iaload, 1)) (hn : pc + 1 = nx) : zOK zPre m pc (s_sld nx) := by
  subst hn
  intro G ctx ih hG hN hP hI dep ls st h o ho
  obtain ⟨i, t, rfl, ho⟩ := zLs ho
  obtain ⟨r, t, rfl, ho⟩ := zLs ho
  obtain ⟨b1, ho⟩ := zB ho
  obtain ⟨b2, ho⟩ := zB ho
  have b2 : r = 6 := zbeq b2
  subst b2
  obtain ⟨v, hv, ho⟩ := zlg_s ho
  rw [zs4] at hv
  obtain ⟨h3, h4⟩ := hI m (pc + 1) dep ls (v :: t) h o ho
  refine ⟨h3, fun p e R s mid args below meth cc H locs cells slots Q ad lsA vals q1 q2 q3 q4 q5 q6 q7 q8 => ?_⟩
  obtain ⟨I, vals, rfl, r1, hvs⟩ := q6.inv
  obtain ⟨X, vals, rfl, r2, hvs2⟩ := hvs.inv
  obtain rfl := (zr6 (v := 6) rfl X).mp r2
  obtain ⟨j, rfl, hj, rfl⟩ := zn0 (zkq b1) r1
  rw [zq16] at hv
  obtain ⟨hx, hb, -⟩ := q1.of hm
  obtain ⟨xs, k1, k2, k3⟩ := hP.2.2.1
  obtain ⟨w1, w2, w3⟩ := zscr (ctx := ctx) q2 k1
  have hl : j < ctx.2.length := (List.getElem?_eq_some_iff.mp hv).1
  have hc : (nI j).toNatClampNeg = j := nI_clamp (by omega)
  exact va_sld hx hb w1 w2 w3 q3 (nI_in hl (by omega)) hd (by
    rw [hc]
    exact h4 p e R s mid args below meth cc H locs cells slots Q ad lsA _ q1 q2 q3 q4 q5 (zall.cons (k3 j v hv ad) hvs2) q7 q8)
-- a row's place
def zAlRow (lo hi m pc nx : Nat) : Prop := ∀ (p : Program) (l : Launch) (e : Env) (R : Room) (s : State) (mid : MethodId) (args : Array Value) (below : List Frame) (meth : Method) (cc : Code) (H : Heap) (locs : List Loc) (cells slots : Nat) (Q : State → Prop) (lsA : Array Slot) (rest : List Value) (D : va_G) (tys : List (ClassId × FieldType)) (a n t0 tg : Nat) (cA : ClassId) (i : Int32), zF m p s mid args meth cc → va_K D zcls2 tys s → lo ≤ tg → tg ≤ hi → tys[t0]? = some (cA, ztyp tg) → vp_in i n →
  ((tg = 20 ∨ tg = 22 ∨ tg = 23) → ∀ f : Nat → Int32, va_P D zcls2 [(a, .inl (cA, n, .inl f))] H → W p l e R s mid args below meth cc H locs cells slots Q (F0 mid nx lsA (.int (f i.toNatClampNeg) :: rest)) → W p l e R s mid args below meth cc H locs cells slots Q (F0 mid pc lsA (.int i :: .ref a :: rest))) ∧
  (tg = 21 → ∀ f : Nat → Int64, va_P D zcls2 [(a, .inl (cA, n, .inr (.inl f)))] H → W p l e R s mid args below meth cc H locs cells slots Q (F0 mid nx lsA (.long (f i.toNatClampNeg) :: rest)) → W p l e R s mid args below meth cc H locs cells slots Q (F0 mid pc lsA (.int i :: .ref a :: rest))) ∧
  (tg = 24 → ∀ f : Nat → UInt64, va_P D zcls2 [(a, .inl (cA, n, .inr (.inr (.inr (.inl f)))))] H → W p l e R s mid args below meth cc H locs cells slots Q (F0 mid nx lsA (.double (f i.toNatClampNeg) :: rest)) → W p l e R s mid args below meth cc H locs cells slots Q (F0 mid pc lsA (.int i :: .ref a :: rest))) ∧
  (25 ≤ tg ∧ tg ≤ 28 → ∀ f : Nat → Option Nat, va_P D zcls2 [(a, .inl (cA, n, zrf f))] H → W p l e R s mid args below meth cc H locs cells slots Q (F0 mid nx lsA (va_rf (f i.toNatClampNeg) :: rest)) → W p l e R s mid args below meth cc H locs cells slots Q (F0 mid pc lsA (.int i :: .ref a :: rest)))

def zAxRow (lo hi m pc nx : Nat) : Prop := ∀ (p : Program) (l : Launch) (e : Env) (R : Room) (s : State) (mid : MethodId) (args : Array Value) (below : List Frame) (meth : Method) (cc : Code) (H : Heap) (locs : List Loc) (cells slots : Nat) (Q : State → Prop) (lsA : Array Slot) (rest : List Value) (A : Nat → Prop) (a n tg : Nat) (i : Int32) (f : Nat → Value), zF m p s mid args meth cc → lo ≤ tg → tg ≤ hi → (tg = 20 ∨ tg = 22 ∨ tg = 26 ∨ tg = 29) → va_T (ztyp tg) a n f A s s.heap → va_S A s.heap H locs → vp_in i n → W p l e R s mid args below meth cc H locs cells slots Q (F0 mid nx lsA (f i.toNatClampNeg :: rest)) → W p l e R s mid args below meth cc H locs cells slots Q (F0 mid pc lsA (.int i :: .ref a :: rest))
theorem zrowR_iaload (hm : zM m = some md) (hd : decode md.2.1 pc = .ok (.iaload, 1)) (hn : pc + 1 = nx) : zAlRow 20 20 m pc nx := by
  subst hn
  intro p l e R s mid args below meth cc H locs cells slots Q lsA rest D tys a n t0 tg cA i hF hK h1 h2 ht hin
  obtain rfl : tg = 20 := by omega
  obtain ⟨hx, hb, -⟩ := hF.of hm
  exact ⟨fun _ f hP k => va_iald hx hb hK hP 0 t0 (by rfl) ht hin hd k, fun z => by omega, fun z => by omega, fun z => by omega⟩
theorem zrow_iaload (hm : zM m = some md) (hd : decode md.2.1 pc = .ok (.iaload, 1)) (hn : pc + 1 = nx) : zAlRow 20 20 m pc nx ∧ zAxRow 20 20 m pc nx := by
  refine ⟨zrowR_iaload hm hd hn, ?_⟩
  subst hn
  intro p l e R s mid args below meth cc H locs cells slots Q lsA rest A a n tg i f hF h1 h2 h3 hT hS hin k
  obtain rfl : tg = 20 := by omega
  obtain ⟨hx, hb, -⟩ := hF.of hm
  exact va_ti hx hb hT hS hin rfl hd k
theorem zrowR_baload (hm : zM m = some md) (hd : decode md.2.1 pc = .ok (.baload, 1)) (hn : pc + 1 = nx) : zAlRow 22 22 m pc nx := by
  subst hn
  intro p l e R s mid args below meth cc H locs cells slots Q lsA rest D tys a n t0 tg cA i hF hK h1 h2 ht hin
  obtain rfl : tg = 22 := by omega
  obtain ⟨hx, hb, -⟩ := hF.of hm
  exact ⟨fun _ f hP k => va_bald hx hb hK hP 0 t0 (by rfl) ht hin hd k, fun z => by omega, fun z => by omega, fun z => by omega⟩
theorem zrow_baload (hm : zM m = some md) (hd : decode md.2.1 pc = .ok (.baload, 1)) (hn : pc + 1 = nx) : zAlRow 22 22 m pc nx ∧ zAxRow 22 22 m pc nx := by
  refine ⟨zrowR_baload hm hd hn, ?_⟩
  subst hn
  intro p l e R s mid args below meth cc H locs cells slots Q lsA rest A a n tg i f hF h1 h2 h3 hT hS hin k
  obtain rfl : tg = 22 := by omega
  obtain ⟨hx, hb, -⟩ := hF.of hm
  exact va_tb hx hb hT hS hin rfl hd k
theorem zrowR_caload (hm : zM m = some md) (hd : decode md.2.1 pc = .ok (.caload, 1)) (hn : pc + 1 = nx) : zAlRow 23 23 m pc nx := by
  subst hn
  intro p l e R s mid args below meth cc H locs cells slots Q lsA rest D tys a n t0 tg cA i hF hK h1 h2 ht hin
  obtain rfl : tg = 23 := by omega
  obtain ⟨hx, hb, -⟩ := hF.of hm
  exact ⟨fun _ f hP k => va_cald hx hb hK hP 0 t0 (by rfl) ht hin hd k, fun z => by omega, fun z => by omega, fun z => by omega⟩
theorem zrow_caload (hm : zM m = some md) (hd : decode md.2.1 pc = .ok (.caload, 1)) (hn : pc + 1 = nx) : zAlRow 23 23 m pc nx ∧ zAxRow 23 23 m pc nx := by
  refine ⟨zrowR_caload hm hd hn, ?_⟩
  subst hn
  intro p l e R s mid args below meth cc H locs cells slots Q lsA rest A a n tg i f hF h1 h2 h3 hT hS hin k
  exfalso; omega
theorem zrowR_laload (hm : zM m = some md) (hd : decode md.2.1 pc = .ok (.laload, 1)) (hn : pc + 1 = nx) : zAlRow 21 21 m pc nx := by
  subst hn
  intro p l e R s mid args below meth cc H locs cells slots Q lsA rest D tys a n t0 tg cA i hF hK h1 h2 ht hin
  obtain rfl : tg = 21 := by omega
  obtain ⟨hx, hb, -⟩ := hF.of hm
  exact ⟨fun z => by omega, fun _ f hP k => va_lald hx hb hK hP 0 t0 (by rfl) ht hin hd k, fun z => by omega, fun z => by omega⟩
theorem zrow_laload (hm : zM m = some md) (hd : decode md.2.1 pc = .ok (.laload, 1)) (hn : pc + 1 = nx) : zAlRow 21 21 m pc nx ∧ zAxRow 21 21 m pc nx := by
  refine ⟨zrowR_laload hm hd hn, ?_⟩
  subst hn
  intro p l e R s mid args below meth cc H locs cells slots Q lsA rest A a n tg i f hF h1 h2 h3 hT hS hin k
  exfalso; omega
theorem zrowR_daload (hm : zM m = some md) (hd : decode md.2.1 pc = .ok (.daload, 1)) (hn : pc + 1 = nx) : zAlRow 24 24 m pc nx := by
  subst hn
  intro p l e R s mid args below meth cc H locs cells slots Q lsA rest D tys a n t0 tg cA i hF hK h1 h2 ht hin
  obtain rfl : tg = 24 := by omega
  obtain ⟨hx, hb, -⟩ := hF.of hm
  exact ⟨fun z => by omega, fun z => by omega, fun _ f hP k => va_dald hx hb hK hP 0 t0 (by rfl) ht hin hd k, fun z => by omega⟩
theorem zrow_daload (hm : zM m = some md) (hd : decode md.2.1 pc = .ok (.daload, 1)) (hn : pc + 1 = nx) : zAlRow 24 24 m pc nx ∧ zAxRow 24 24 m pc nx := by
  refine ⟨zrowR_daload hm hd hn, ?_⟩
  subst hn
  intro p l e R s mid args below meth cc H locs cells slots Q lsA rest A a n tg i f hF h1 h2 h3 hT hS hin k
  exfalso; omega
theorem zrowR_aaload (hm : zM m = some md) (hd : decode md.2.1 pc = .ok (.aaload, 1)) (hn : pc + 1 = nx) : zAlRow 25 28 m pc nx := by
  subst hn
  intro p l e R s mid args below meth cc H locs cells slots Q lsA rest D tys a n t0 tg cA i hF hK h1 h2 ht hin
  obtain ⟨hx, hb, -⟩ := hF.of hm
  refine ⟨fun z => by omega, fun z => by omega, fun z => by omega, fun _ f hP k => ?_⟩
  have hlt : i.toNatClampNeg < n := Nat.not_le.mp fun q => hin (Or.inr q)
  have hrf : (ztyp tg).isReference = true := by
    have : tg = 25 ∨ tg = 26 ∨ tg = 27 ∨ tg = 28 := by omega
    rcases this with rfl | rfl | rfl | rfl <;> rfl
  exact W.aald (v := va_rf (f i.toNatClampNeg)) (ty := ztyp tg) hx hb (hP 0 _ rfl) ((hK.2 t0 _ ht).1 n (fun j => va_rf (f j))) hrf (fun q => by cases q) (by show ¬ (i < 0 ∨ (arrV _ _ _).slots.size ≤ _); rw [arrV_size]; exact hin) (by show (arrV _ _ _).slots[_]? = _; rw [arrV_read _ _ hlt]) rfl rfl hd k
theorem zrow_aaload (hm : zM m = some md) (hd : decode md.2.1 pc = .ok (.aaload, 1)) (hn : pc + 1 = nx) : zAlRow 25 28 m pc nx ∧ zAxRow 25 29 m pc nx := by
  refine ⟨zrowR_aaload hm hd hn, ?_⟩
  subst hn
  intro p l e R s mid args below meth cc H locs cells slots Q lsA rest A a n tg i f hF h1 h2 h3 hT hS hin k
  obtain ⟨hx, hb, -⟩ := hF.of hm
  have h4 : tg = 26 ∨ tg = 29 := by omega
  rcases h4 with rfl | rfl
  · exact vb_tq (C := "java/lang/Object") hx hb hT hS hin rfl hd k
  · exact vb_tq (C := "java/lang/Integer") hx hb hT hS hin rfl hd k
theorem zsy_s {q : Nat} {k : Nat → zR} {o : zo} : ∀ {l : List Nat}, zsy l q k = some o → ∃ w ∈ l, w % 16 = q / 16 ∧ k (16 * (w / 16) + 4) = some o := by
  intro l
  induction l with
  | nil => intro h; cases h
  | cons a t ih =>
    intro h
    rcases zBc h with ⟨b1, h⟩ | ⟨-, h⟩
    · have b1 := zbeq b1
      rw [zl15, zs4] at b1
      rw [zsl4, zs4, Nat.add_eq] at h
      exact ⟨a, by simp, b1, h⟩
    · obtain ⟨w, h1, h2⟩ := ih h
      exact ⟨w, by simp [h1], h2⟩
theorem ok_ald0 {lo hi hi2 : Nat} (hlo : 20 ≤ lo) (hhi : hi ≤ 28 ∧ (hi2 = 29 → hi = 28) ∧ (hi2 < 29 → hi = hi2) ∧ hi2 ≤ 29) (h25 : lo = 25 → hi = 28) (row2 : zAlRow lo hi m pc nx ∧ zAxRow lo hi2 m pc nx) : zOK zPre m pc (s_ald lo hi2 nx) := by
  obtain ⟨row, rowx⟩ := row2
  intro G ctx ih hG hN hP hI dep ls st h o ho
  obtain ⟨i, t, rfl, ho⟩ := zLs ho
  obtain ⟨r, t, rfl, ho⟩ := zLs ho
  rcases zBc ho with ⟨b0, ho⟩ | ⟨-, ho⟩
  · obtain ⟨c, ho, hc⟩ := zcell_s ho
    obtain ⟨b1, ho⟩ := zB ho
    obtain ⟨b2, ho⟩ := zB ho
    obtain ⟨b3, ho⟩ := zB ho
    have b1 := zble b1
    have b2 := zble b2
    have b3 : Nat.shiftRight i 4 < c.2.1 := zble b3
    rw [zs4] at b3
    obtain ⟨v, hv, ho⟩ := zlg_s ho
    rw [zs4] at hv
    obtain ⟨h3, h4⟩ := hI m nx dep ls (v :: t) h o ho
    refine ⟨h3, fun p e R s mid args below meth cc H locs cells slots Q ad lsA vals q1 q2 q3 q4 q5 q6 q7 q8 => ?_⟩
    obtain ⟨I, vals, rfl, r1, hvs⟩ := q6.inv
    obtain ⟨X, vals, rfl, r2, hvs2⟩ := hvs.inv
    have hc2 := hc G ctx s ad H locs X hP q2 q3 q4 r2 (by omega)
    obtain ⟨j, rfl, hj, rfl⟩ := zn0 (zkq b0) r1
    rw [zq16] at hv b3
    rcases hc2 with ⟨a, E, rfl, k1, k2⟩ | ⟨kk, -, rfl, z0, ⟨z, z2, -⟩ | ⟨z, f, hT, hf⟩⟩
    rotate_left
    · exfalso; omega
    · have hcl : (nI j).toNatClampNeg = j := nI_clamp (by omega)
      refine rowx p G.1 e R s mid args below meth cc H locs cells slots Q lsA vals (zA G) _ c.2.1 c.1 (nI j) f q1 b1 b2 z (zXa_T q2 hT) q3 (nI_in b3 (by omega)) ?_
      rw [hcl]
      exact h4 p e R s mid args below meth cc H locs cells slots Q ad lsA _ q1 q2 q3 q4 q5 (zall.cons (hf j v hv ad) hvs2) q7 q8
    have b2 : c.1 ≤ hi := by
      obtain ⟨-, ⟨z, -⟩ | ⟨z, -⟩ | ⟨z, -⟩ | ⟨z, -⟩ | ⟨z, -⟩ | ⟨z, -⟩⟩ := id k1 <;> omega
    have k0 := k1.1
    have hcl : (nI j).toNatClampNeg = j := nI_clamp (by omega)
    have go : ∀ x, zrel G.2.1 ad v x → W p G.1 e R s mid args below meth cc H locs cells slots Q (F0 mid nx lsA (x :: vals)) := fun x hx => h4 p e R s mid args below meth cc H locs cells slots Q ad lsA _ q1 q2 q3 q4 q5 (zall.cons hx hvs2) q7 q8
    have hK := zK hP q2
    have hin : vp_in (nI j) c.2.1 := nI_in b3 (by omega)
    obtain ⟨-, ⟨z, -⟩ | ⟨z, f, rfl, hf⟩ | ⟨z, f, rfl, hf⟩ | ⟨z, f, rfl, hf⟩ | ⟨z, f, rfl, hf⟩ | ⟨z, -⟩⟩ := k1
    · exfalso; omega
    · exact (row p G.1 e R s mid args below meth cc H locs cells slots Q lsA vals G.2.2.1 _ a c.2.1 _ c.1 _ (nI j) q1 hK b1 b2 (ztys_at (by omega) (by omega)) hin).1 z f k2 (by rw [hcl]; exact go _ (hf j v hv))
    · exact (row p G.1 e R s mid args below meth cc H locs cells slots Q lsA vals G.2.2.1 _ a c.2.1 _ c.1 _ (nI j) q1 hK b1 b2 (ztys_at (by omega) (by omega)) hin).2.1 z f (by rw [z]; exact k2) (by rw [hcl]; exact go _ (hf j v hv))
    · exact (row p G.1 e R s mid args below meth cc H locs cells slots Q lsA vals G.2.2.1 _ a c.2.1 _ c.1 _ (nI j) q1 hK b1 b2 (ztys_at (by omega) (by omega)) hin).2.2.1 z f (by rw [z]; exact k2) (by rw [hcl]; exact go _ (hf j v hv))
    · exact (row p G.1 e R s mid args below meth cc H locs cells slots Q lsA vals G.2.2.1 _ a c.2.1 _ c.1 _ (nI j) q1 hK b1 b2 (ztys_at (by omega) (by omega)) hin).2.2.2 z f k2 (by rw [hcl]; exact go _ (hf j v hv))
    · exfalso; omega
  · obtain ⟨b0, ho⟩ := zB ho
    obtain ⟨b1, ho⟩ := zB ho
    have b1 : lo = 25 := zbeq b1
    have hh := h25 b1
    obtain ⟨b2, ho⟩ := zB ho
    obtain ⟨h1, ho⟩ := zcel_s ho
    obtain ⟨b3, ho⟩ := zB ho
    obtain ⟨b4, ho⟩ := zB ho
    have b3 : 30 ≤ _ := zble b3
    have b4 : _ ≤ 31 := zble b4
    obtain ⟨w, hw, e1, ho⟩ := zsy_s ho
    rw [zs4] at h1 b3 b4 hw
    obtain ⟨h3, h4⟩ := hI m nx dep ls _ h o ho
    refine ⟨h3, fun p e R s mid args below meth cc H locs cells slots Q ad lsA vals q1 q2 q3 q4 q5 q6 q7 q8 => ?_⟩
    obtain ⟨I, vals, rfl, r1, hvs⟩ := q6.inv
    obtain ⟨X, vals, rfl, r2, hvs2⟩ := hvs.inv
    obtain ⟨l1, rfl⟩ := (zr4 (zkq b2) X).mp r2
    obtain ⟨l2, rfl⟩ := (zr1 (zkq b0) I).mp r1
    obtain ⟨g1, g2, g3, g4, es, g5⟩ := id q4
    obtain ⟨k1, k2⟩ := g5 _ h1
    have hK := zK hP q2
    obtain ⟨z1, z2⟩ := hG.1 _ l2
    obtain ⟨-, ⟨z, -⟩ | ⟨z, -⟩ | ⟨z, -⟩ | ⟨z, -⟩ | ⟨z, -⟩ | ⟨z, z8, f, hE, hf⟩⟩ := k1
    · exfalso; omega
    · exfalso; omega
    · exfalso; omega
    · exfalso; omega
    · exfalso; omega
    · obtain ⟨y1, y2, y3⟩ := hf w hw
      rw [e1] at y3
      rw [hE] at k2
      have hin : vp_in (G.2.1.1 (i / 16)) 8 := fun q => by
        rcases q with q | q
        · have q : (G.2.1.1 (i / 16)).toInt < (0 : Int32).toInt := Int32.lt_iff_toInt_lt.mp q
          have : (0 : Int32).toInt = 0 := rfl
          omega
        · have : (G.2.1.1 (i / 16)).toNatClampNeg = (G.2.1.1 (i / 16)).toInt.toNat := rfl
          omega
      refine (row p G.1 e R s mid args below meth cc H locs cells slots Q lsA vals G.2.2.1 _ _ 8 _ (if (zG h.2.2.2 (r / 16)).1 = 30 then 25 else 28) _ (G.2.1.1 (i / 16)) q1 hK (by split <;> omega) (by split <;> omega) (ztys_at (by split <;> omega) (by split <;> omega)) hin).2.2.2 (by split <;> omega) f (fun j x hj => by
        cases j with
        | zero => cases hj; exact va_at2 k2
        | succ j => cases hj) ?_
      rw [y3]
      refine h4 p e R s mid args below meth cc H locs cells slots Q ad lsA _ q1 q2 q3 q4 q5 (zall.cons ?_ hvs2) q7 q8
      refine (zr4 (by omega) _).mpr ?_
      rw [show (16 * (w / 16) + 4) / 16 = w / 16 by omega]
      exact ⟨y2, rfl⟩
end Read2
