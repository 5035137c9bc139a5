section Fields
variable {m pc nx : Nat} {md : zMD}
/-- a value that may go in: 0 int, 1 boolean, 2 byte, 3 char, 4 long, 5 reference, 6 double -/
def zftOK (ft : Nat) (X : Value) : Prop := match ft with
  | 0 => ∃ i, X = .int i
  | 1 => ∃ n, n ≤ 1 ∧ X = .int (nI n)
  | 2 => ∃ i : Int32, X = .int i.toInt8.toInt32
  | 3 => ∃ n, n < 65536 ∧ X = .int (nI n)
  | 4 => ∃ i, X = .long i
  | 5 => X = .null ∨ ∃ u, X = .ref u
  | _ => ∃ i, X = .double i
theorem zbyteN {a : Nat} (h : a < 128 ∨ (4294967168 ≤ a ∧ a < 4294967296)) : nI a = (nI a).toInt8.toInt32 := by
  rw [zi_i2b (by omega)]
  rcases h with h | ⟨h, h2⟩
  · rw [if_pos (by omega), Nat.mod_eq_of_lt (by omega)]
  · rw [if_neg (by omega)]; congr 1; omega
theorem zkindR {v : Nat} (h : (112 >>> (v % 16)) &&& 1 ≠ 0) : v % 16 = 4 ∨ v % 16 = 5 ∨ v % 16 = 6 :=
  (by decide : ∀ k, k < 16 → (112 >>> k) &&& 1 ≠ 0 → k = 4 ∨ k = 5 ∨ k = 6) (v % 16) (Nat.mod_lt _ (by decide)) h
theorem zfit_s {ft v : Nat} {k : zR} {o : zo} (h : zfit ft v k = some o) : k = some o ∧ ∀ (E : zen) (ad : zam) (X : Value), zrel E ad v X → zftOK ft X := by
  rcases ft with _ | _ | _ | _ | _ | _ | ft
  · obtain ⟨b, h⟩ := zmask' h
    exact ⟨h, fun E ad X r => zint (zkindI b) r⟩
  · obtain ⟨b1, h⟩ := zB h
    obtain ⟨b2, h⟩ := zB h
    have b2 : v ≤ 16 := zble b2
    refine ⟨h, fun E ad X r => ?_⟩
    obtain ⟨a, rfl, ha, rfl⟩ := zn0 (zkq b1) r
    exact ⟨a, by omega, rfl⟩
  · obtain ⟨b1, h⟩ := zB h
    rcases zBc h with ⟨b2, h⟩ | ⟨-, h⟩
    · have b2 : v ≤ 2047 := zble b2
      refine ⟨h, fun E ad X r => ?_⟩
      obtain ⟨a, rfl, ha, rfl⟩ := zn0 (zkq b1) r
      exact ⟨nI a, congrArg Value.int (zbyteN (by omega))⟩
    · obtain ⟨b2, h⟩ := zB h
      have b2 : 68719474688 ≤ v := zble b2
      refine ⟨h, fun E ad X r => ?_⟩
      obtain ⟨a, rfl, ha, rfl⟩ := zn0 (zkq b1) r
      exact ⟨nI a, congrArg Value.int (zbyteN (by omega))⟩
  · obtain ⟨b1, h⟩ := zB h
    obtain ⟨b2, h⟩ := zB h
    have b2 : v ≤ 1048575 := zble b2
    refine ⟨h, fun E ad X r => ?_⟩
    obtain ⟨a, rfl, ha, rfl⟩ := zn0 (zkq b1) r
    exact ⟨a, by omega, rfl⟩
  · obtain ⟨b, h⟩ := zmask' h
    exact ⟨h, fun E ad X r => zlong (zkindL b) r⟩
  · obtain ⟨b, h⟩ := zmask' h
    refine ⟨h, fun E ad X r => ?_⟩
    show X = .null ∨ ∃ u, X = .ref u
    rcases zkindR b with z | z | z
    · exact Or.inr ⟨_, ((zr4 z X).mp r).2⟩
    · exact Or.inl ((zr5 z X).mp r)
    · exact Or.inr ⟨_, (zr6 z X).mp r⟩
  · obtain ⟨b, h⟩ := zmask' h
    exact ⟨h, fun E ad X r => ⟨_, (zr7 (zkindD b) X).mp r⟩⟩
/-- a type and the number of what may go in -/
def zfty (ft : Nat) (ty : FieldType) : Prop := ∀ X, zftOK ft X → narrow ty X = X ∧ fits ty X = true
theorem zfit_r {ft v : Nat} {k : zR} {o : zo} (hft : ft = 1 ∨ ft = 2 ∨ ft = 3) (h : zfit ft v k = some o) : (∀ (E : zen) (ad : zam) (X : Value), zrel E ad v X → zftOK ft X) ∧ k = some o := ⟨(zfit_s h).2, (zfit_s h).1⟩
theorem zfty0 : zfty 0 .int := by rintro X ⟨i, rfl⟩; exact ⟨rfl, rfl⟩
theorem zfty1 : zfty 1 .boolean := by
  rintro X ⟨n, hn, rfl⟩
  have : n = 0 ∨ n = 1 := by omega
  rcases this with rfl | rfl <;> exact ⟨rfl, rfl⟩
theorem zfty2 : zfty 2 .byte := by rintro X ⟨i, rfl⟩; exact ⟨pk_nb i, pk_fb i⟩
theorem zfty3 : zfty 3 .char := by rintro X ⟨n, hn, rfl⟩; exact pk_charN hn
theorem zfty4 : zfty 4 .long := by rintro X ⟨i, rfl⟩; exact ⟨rfl, rfl⟩
theorem zfty5 {C : String} : zfty 5 (.object C) := by rintro X (rfl | ⟨u, rfl⟩) <;> exact ⟨rfl, rfl⟩
theorem zfty5a {t : FieldType} : zfty 5 (.array t) := by rintro X (rfl | ⟨u, rfl⟩) <;> exact ⟨rfl, rfl⟩
theorem zfty6 : zfty 6 .double := by rintro X ⟨i, rfl⟩; exact ⟨rfl, rfl⟩
def zPfRow (ci i ft m pc nx : Nat) : Prop := ∀ (p : Program) (l : Launch) (e : Env) (R : Room) (s : State) (mid : MethodId) (args : Array Value) (below : List Frame) (meth : Method) (cc : Code) (H : Heap) (locs : List Loc) (cells slots : Nat) (Q : State → Prop) (lsA : Array Slot) (rest : List Value) (D : va_G) (tys : List (ClassId × FieldType)) (ws : va_W) (A : Nat → Prop) (q0 a : Nat) (fs : List Value) (X : Value), zF m p s mid args meth cc → va_K D zcls tys s → va_P D zcls ws H → va_D A ws → va_S A s.heap H locs → ws[q0]? = some (a, .inr (ci, fs)) → zftOK ft X → i < fs.length → (∀ (H1 : Heap) (locs1 : List Loc), va_P D zcls (ws.set q0 (a, .inr (ci, fs.set i X))) H1 → va_D A (ws.set q0 (a, .inr (ci, fs.set i X))) → va_S A s.heap H1 locs1 → W p l e R s mid args below meth cc H1 locs1 cells slots Q (F0 mid nx lsA rest)) → W p l e R s mid args below meth cc H locs cells slots Q (F0 mid pc lsA (X :: .ref a :: rest))
theorem zrow_pf {ci i ft N index : Nat} {C ref : String} {T : u_T} {ty0 : Nat → FieldType} {ty : FieldType} (hm : zM m = some md) (hd : decode md.2.1 pc = .ok (.putfield index, 3)) (hn : pc + 3 = nx) (hc : zcls[ci]? = some (C, T, N)) (hk : i < N) (hin : ∀ w ∈ u_ws C T N, w ∈ zTg) (hty : ∀ k, k < N → parseFieldDescriptor (T k).2.2.1 = some (ty0 k)) (hnm : ∀ a, a < N → ∀ b, b < N → a ≠ b → (T a).2.1 ≠ (T b).2.1) (hlink : Cond.fieldLink md.1.cls index ref (T i).2.1 (T i).2.2.1 ∈ zTg) (hr : ref = (T i).1 ∨ Cond.sameField ref (T i).1 (T i).2.1 (T i).2.2.1 ∈ zTg) (hfin : (T i).2.2.2 = false) (hfd : parseFieldDescriptor (T i).2.2.1 = some ty) (hft : zfty ft ty) : zPfRow ci i ft m pc nx := by
  subst hn
  intro p l e R s mid args below meth cc H locs cells slots Q lsA rest D tys ws A q0 a fs X hF hK hP hD hS he hX hl k
  obtain ⟨hx, hb, -, hown, hts, -⟩ := hF.of hm
  obtain ⟨f1, f2⟩ := hft X hX
  exact va_put hx hb hts hin ty0 hty hnm hown hK hP hD hS q0 he hc i hk (hts _ hlink) (zvia hts hr) hfin hfd f1 f2 hl hd k
theorem zrow_pfF {ci i ft N index : Nat} {C ref : String} {T : u_T} {ty0 : Nat → FieldType} {ty : FieldType} (hm : zM m = some md) (hd : decode md.2.1 pc = .ok (.putfield index, 3)) (hn : pc + 3 = nx) (hc : zcls[ci]? = some (C, T, N)) (hk : i < N) (hin : ∀ w ∈ u_ws C T N, w ∈ zTg) (hty : ∀ k, k < N → parseFieldDescriptor (T k).2.2.1 = some (ty0 k)) (hnm : ∀ a, a < N → ∀ b, b < N → a ≠ b → (T a).2.1 ≠ (T b).2.1) (hlink : Cond.fieldLink md.1.cls index ref (T i).2.1 (T i).2.2.1 ∈ zTg) (hr : ref = (T i).1 ∨ Cond.sameField ref (T i).1 (T i).2.1 (T i).2.2.1 ∈ zTg) (hfin : (T i).2.2.2 = true) (hnmi : md.1.name = "<init>") (hdecl : (T i).1 = md.1.cls) (hfd : parseFieldDescriptor (T i).2.2.1 = some ty) (hft : zfty ft ty) : zPfRow ci i ft m pc nx := by
  subst hn
  intro p l e R s mid args below meth cc H locs cells slots Q lsA rest D tys ws A q0 a fs X hF hK hP hD hS he hX hl k
  obtain ⟨hx, hb, -, hown, hts, -, -, hnam, -⟩ := hF.of hm
  obtain ⟨f1, f2⟩ := hft X hX
  exact va_putF hx hb hts hin ty0 hty hnm hown hK hP hD hS q0 he hc i hk (hts _ hlink) (zvia hts hr) hfin (by rw [hnam]; exact hnmi) hdecl hfd f1 f2 hl hd k
theorem zHRn {e : zen} {D : va_G} {dA : Nat → ClassId} {base : Nat} {ad : zam} {h : zh} {H : Heap} (q : zHR e D dA base ad h H) : ad.1 = h.1 ∧ h.1 ≤ 512 ∧ (∀ i j, i < h.1 → j < h.1 → ad.2 i = ad.2 j → i = j) ∧ (∀ i, i < h.1 → base ≤ ad.2 i) := ⟨q.1, q.2.1, q.2.2.1, q.2.2.2.1⟩
theorem ok_pf0 {ci i ft : Nat} (hci : ci < 14) (row : zPfRow ci i ft m pc nx) : zOK zPre m pc (s_pf ci i ft nx) := by
  intro G ctx ih hG hN hP hI dep ls st h o ho
  obtain ⟨v, t, rfl, h9⟩ := zLs ho
  obtain ⟨r, t, rfl, h8⟩ := zLs h9
  obtain ⟨b0, h7⟩ := zB h8
  obtain ⟨la, h6⟩ := zcel_s h7
  obtain ⟨b1, h5⟩ := zB h6
  obtain ⟨h4, hft⟩ := zfit_s h5
  obtain ⟨hi, h3⟩ := zls_s h4
  rw [zsetc_s] at h3
  rw [zs4] at la b1 hi h3
  have b1 : (zG h.2.2.2 (r / 16)).1 = ci := zbeq b1
  obtain ⟨k1, k2⟩ := hI m nx dep ls t _ o h3
  refine ⟨k1, fun p e R s mid args below meth cc H locs cells slots Q ad lsA vals q1 q2 q3 q4 q5 q6 q7 q8 => ?_⟩
  obtain ⟨X, vals, rfl, r1, hvs⟩ := q6.inv
  obtain ⟨Y, vals, rfl, r2, hvs2⟩ := hvs.inv
  obtain ⟨l1, rfl⟩ := (zr4 (zkq b0) Y).mp r2
  obtain ⟨-, -, g3, g4, es, g5⟩ := id q4
  obtain ⟨⟨w0, w1⟩, w2⟩ := g5 _ la
  rcases w1 with ⟨z, fs, hE, hfs⟩ | ⟨z, -⟩ | ⟨z, -⟩ | ⟨z, -⟩ | ⟨z, -⟩ | ⟨z, -⟩
  · have he : (zws h.1 ad es)[r / 16]? = some (ad.2 (r / 16), .inr (ci, fs)) := by rw [zws_at la, hE, b1]
    refine row p G.1 e R s mid args below meth cc H locs cells slots Q lsA vals G.2.2.1 _ (zws h.1 ad es) (zA G) (r / 16) _ fs X q1 (zK1 (zK hP q2)) (zws_P fun i hi => (g5 i hi).2) (zws_D g3 g4) q3 he (hft _ _ X r1) (by rw [← hfs.1]; exact hi) fun H1 locs1 p1 p2 p3 => ?_
    refine k2 p e R s mid args below meth cc H1 locs1 cells slots Q ad lsA vals q1 q2 p3 (zHR.put (zHRn q4) (fun i hi => (g5 i hi).1) la ⟨w0, Or.inl ⟨z, fs.set i X, by rw [b1], hfs.set r1⟩⟩ p1) q5 hvs2 q7 (q8.step (zle.rf ad) rfl rfl)
  all_goals (exfalso; omega)
end Fields
