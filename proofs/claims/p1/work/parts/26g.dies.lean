section Dies
variable {m pc nx : Nat} {md mdc : zMD}
/-- a method that, from where P holds, comes to a state that never returns -/
def zDie (l : Launch) (y : MethodName) (ws : List Cond) (rm : Room) (P : Array Value → State → Prop) : Prop :=
  Refuse.ComesToP l y (headSpec ws rm).pre rm fun tb _ s mid below t => ∀ args, s.frames = Frame.invoking mid args :: below → P args s → Refuse.Cert tb below t
theorem zdie_entry {l : Launch} {y : MethodName} {ws ws' : List Cond} {rm : Room} {P : Array Value → State → Prop} {cc : ByteArray} {maxL : Nat} {ret : Option FieldType} (hy : plainName y.cls = true) (hw : ws = Cond.code y cc maxL ret :: ws')
    (body : ∀ p e s m args below meth c s₁, BodyLoose p l y (headSpec ws rm) cc maxL ret e s m args below meth c s₁ → c.maxLocals = maxL → (∀ x ∈ c.exceptionTable.toList, False) → P args s →
      W p l e rm s m args below meth c s.heap [] 0 0 (Refuse.Cert p.tables below) (entryFrame m args maxL)) : zDie l y ws rm P := by
  refine Refuse.ComesToP.of_walk (code := cc) (maxLocals := maxL) (ret := ret) hy ?_ ?_
  · intro args s h
    exact atoms_spec (ws := ws) h _ (by rw [hw]; exact List.mem_cons_self)
  · intro p e s m args below meth c s₁ B
    have B : BodyLoose p l y (headSpec ws rm) cc maxL ret e s m args below meth c s₁ := B
    by_cases hP : P args s
    · have hh0 : s₁.heap = s.heap := by rw [B.state]; rfl
      have hml : c.maxLocals = maxL := B.maxLocals_eq (atoms_spec (ws := ws) B.pre _ (by rw [hw]; exact List.mem_cons_self))
      have ht : ∀ x ∈ c.exceptionTable.toList, False := by
        obtain ⟨meth9, c9, h1, h2, -, -, -, -, h7, -⟩ := Cond.code_spec B.named (atoms_spec (ws := ws) B.pre _ (by rw [hw]; exact List.mem_cons_self))
        cases Option.some.inj (h1.symm.trans B.method)
        cases Option.some.inj (h2.symm.trans (Stand.of_body B).code)
        intro x hx
        rw [Array.isEmpty_iff.mp h7] at hx
        cases hx
      obtain ⟨t, a1, b1⟩ := body p e s m args below meth c s₁ B hml ht hP s₁ hh0 (Stand.of_body B)
      exact ⟨t, a1, fun _ _ _ => b1⟩
    · refine ⟨_, Steps.refl _, fun args' hf hP' => absurd ?_ hP⟩
      have h9 := (List.cons.inj (B.frames.symm.trans hf)).1
      have h9 : args = args' := (Frame.invoking.inj h9).2
      rw [h9]; exact hP'
theorem zdie_via {p : Program} {l : Launch} {e : Env} {R : Room} {s : State} {mid : MethodId} {args : Array Value} {below : List Frame} {meth : Method} {c : Code} {T : State} {locs : List Loc} {cells slots : Nat} (X : Stand p l e R s mid args below meth c T locs cells slots) {y : MethodName} {ws : List Cond} {rm : Room} {P : Array Value → State → Prop} {bytes : ByteArray} {maxL : Nat} {ret : Option FieldType} (hD : zDie l y ws rm P) (hcode : ∀ U : State, s.WarmedH U.vm → (Cond.code y bytes maxL ret).before args U = true) (hini : ∀ U : State, s.WarmedH U.vm → (Cond.initialized y.cls).before args U = true) (hws : ∀ w ∈ ws, ∀ (a' : Array Value) (U : State), s.WarmedH U.vm → w.before a' U = true) {mk : MethodId} (hnamed : s.methodNamed? y = some mk) {g : JFrame} (hg : g.method = mid) (hsize : g.locals.size = c.maxLocals) {ig : Instr} {len : Nat} (hdg : decode c.code g.pc = .ok (ig, len)) (hW : 2 * g.monitorRoom + (g.stack.map fun v => v.category).sum ≤ 8) (hfr : rm.frames + 1 ≤ R.frames) (hlo : 8 + (maxL + 11) + rm.locals ≤ R.locals) (hc : cells + rm.cells ≤ R.cells) (hs : slots + rm.slots ≤ R.slots) {a : Array Value} (hP : P a (T.calling g mk a)) (hx : Refuse.Misses c g.pc) (hlk : meth.locks = false) (hl : g.locked = none) (he : g.entered = []) :
    ∃ t, Steps p.tables e below (doInvoke e (T.setTop g) [] mk a).1 t ∧ Refuse.Cert p.tables below t := by
  have h : At T g.method c below := by rw [hg]; exact X.here
  have hn : T.methodNamed? y = some mk := X.named hnamed
  obtain ⟨methY, cY, hmY, hcY, -, hlY, -⟩ := Cond.code_spec hn (hcode T X.warmed)
  obtain ⟨kY, hkY, -⟩ := className_of_methodNamed hn
  have hinitY : kY.init = .initialized := Cond.initialized_spec (findClass_of_methodNamed hn) hkY (hini T X.warmed)
  have happ : (headSpec ws rm).appliesLoose y e.platform (T.calling g mk a) = true :=
    Spec.appliesLoose_calling (g := g) h hdg hn hkY hinitY (X.room_calling (g := g) (R' := rm) hsize hmY hcY hfr (by rw [hlY]; omega) hc hs) (atoms_intro fun w hw => hws w hw _ _ X.warmed)
  have hfr2 : (T.setTop g).frames = .java g :: below := by rw [State.frames_setTop' g X.here.top, X.tail]
  obtain ⟨t, a1, b1⟩ := hD p e X.admits X.cas X.clock ((T.setTop g).pushFrame (.invoking mk a)) mk a (T.setTop g).frames (Refuse.frames_pushFrame _ (Refuse.ok_of_frames hfr2)) happ
  exact Refuse.via_core (S := headSpec ws rm) (y := y) hfr2 happ ⟨t, a1, b1 a (Refuse.frames_pushFrame _ (Refuse.ok_of_frames hfr2)) hP⟩ hx X.method' X.code hlk hg hl he
/-- a call that dies -/
def zCdRow (vi na m pc : Nat) (mdc : zMD) : Prop := ∀ (p : Program) (l : Launch) (e : Env) (R : Room) (s : State) (mid : MethodId) (args : Array Value) (below : List Frame) (meth : Method) (cc : Code) (H : Heap) (locs : List Loc) (cells slots : Nat) (lsA : Array Slot) (As rest : List Value) (rm : Room) (P : Array Value → State → Prop), zF m p s mid args meth cc → zDie l mdc.1 (zCode mdc :: zTg) rm P → cells + rm.cells ≤ R.cells → slots + rm.slots ≤ R.slots → rm.frames + 1 ≤ R.frames → 8 + (mdc.2.2.1 + 11) + rm.locals ≤ R.locals → FrameBlind P → (∀ U : State, U.heap = H → s.WarmedH U.vm → P As.toArray U) → lsA.size = cc.maxLocals → (rest.map fun v => v.category).sum ≤ 8 → As.length = na →
  (vi ≠ 99 → ∃ (b : Nat) (As' : List Value) (q : vw_C) (cell : Cell), As = .ref b :: As' ∧ zcls2[vi]? = some q ∧ H[b]? = some cell ∧ cell.vm.isStatics = false ∧ s.vm.findClass q.1 = some cell.cls ∧ ∃ cC, ClassAt s q.1 cC) → W p l e R s mid args below meth cc H locs cells slots (Refuse.Cert p.tables below) (F0 mid pc lsA (As.reverse ++ rest))
theorem zcode_of {args : Array Value} {s : State} (h0 : mdc.2.2.2.2 = []) (h : (zCode mdc).before args s = true) : (Cond.code mdc.1 mdc.2.1 mdc.2.2.1 mdc.2.2.2.1).before args s = true := by
  unfold zCode at h
  rw [h0] at h
  exact h
theorem zmiss {c : Code} {pc : Nat} (ht : c.exceptionTable.toList = tableOf []) : Refuse.Misses c pc := fun x hx => by
  rw [ht] at hx
  cases hx
theorem zlen_of {y : MethodName} {n : Nat} {As : List Value} (hds : zdsc y n) (hl : As.length = n) : ∀ sig, parseMethodDescriptor y.desc = some sig → As.length = sig.parameters.length := fun sig hsig => by
  have h := hds.2.2
  rw [hsig] at h
  rw [hl]
  exact (Option.some.inj h).symm
theorem zrow_dieV {vi index n : Nat} {q : vw_C} (hm : zM m = some md) (hd : decode md.2.1 pc = .ok (.invokevirtual index, 3)) (ht : md.2.2.2.2 = []) (h0 : mdc.2.2.2.2 = []) (hc : zCode mdc ∈ zTg) (hq : zcls2[vi]? = some q) (hvi : vi ≠ 99) (hlink : Cond.methodLink md.1.cls index mdc.1 ∈ zTg) (hinst : Cond.instanceMethod mdc.1 ∈ zTg) (hsel : Cond.selects q.1 mdc.1 mdc.1 ∈ zTg) (hini : Cond.initialized mdc.1.cls ∈ zTg) (hds : zdsc mdc.1 n) : zCdRow vi (n + 1) m pc mdc := by
  intro p l e R s mid args below meth cc H locs cells slots lsA As rest rm P hF hD hc1 hc2 r3 r4 hbl hPc hsz hcat hlen hrec T hT X
  obtain ⟨b, As', q', cell, rfl, e1, c1, c2, c3, -⟩ := hrec hvi
  cases hq.symm.trans e1
  obtain ⟨hx, hb, hml, hown, hts, hlk, -, -, htab, -⟩ := hF.of hm
  have hcode := zcode_of h0 (hts _ hc)
  obtain ⟨mk, methM, hnamed, hmethM, hstM, habM⟩ := Cond.instanceMethod_spec (hts _ hinst)
  obtain ⟨methM', cM, hmethM', -, -, -, -, -, -, hsigM⟩ := Cond.code_spec hnamed hcode
  cases hmethM.symm.trans hmethM'
  obtain ⟨c9, r2, m2, q1, q2, q3, q4, kP, hkP, hkPi⟩ := Cond.selects_spec (hts _ hsel)
  cases c3.symm.trans q1
  cases (State.methodFound?_of_named hnamed ⟨hds.1, hds.2.1⟩).symm.trans q2
  cases hnamed.symm.trans q3
  have hselP : selectMethod e.platform s.vm cell.cls mk = .method mk := by rw [Launch.admits_selectMethod X.admits]; exact q4
  obtain ⟨vm₁, X₁, hstep₁⟩ := X.invokevirtual hx hown (hts _ hlink) hnamed hmethM hstM hkP hkPi ⟨hds.1, hds.2.1⟩ (a := b) (cell := cell) (by rw [hT]; exact c1)
    (fun z h => by rw [h] at c2; cases c2) hselP hmethM habM hkP hkPi (g := F0 mid pc lsA ((Value.ref b :: As').reverse ++ rest)) rfl (argsL := As') (rest := rest) (zlen_of hds (by simpa using hlen) _ hsigM) zstk (by rw [hb]; exact hd)
  obtain ⟨t, a1, b1⟩ := zdie_via X₁ (g := F0 mid pc lsA rest) hD (fun U hW => zcode_of h0 (word_at hW ((zgoodc hc) _ List.mem_cons_self).2 (hts _ hc))) (fun U hW => word_at hW (good_of_word (List.mem_filter.mp hini).2) (hts _ hini)) (fun w hw a' U hW => word_at hW ((zgoodc hc) w hw).2 (hts w ((zgoodc hc) w hw).1)) hnamed rfl hsz (by rw [hb]; exact hd) (zmr hcat) r3 r4 hc1 hc2 (hbl _ _ _ _ (hPc (T.setVm vm₁) hT X₁.warmed)) (zmiss (by rw [htab, ht])) hlk rfl rfl
  exact ⟨t, hstep₁ t fun acts => (by rw [doInvoke_state]; exact a1), b1⟩
theorem zrow_dieS {index n : Nat} (hm : zM m = some md) (hd : decode md.2.1 pc = .ok (.invokestatic index, 3)) (ht : md.2.2.2.2 = []) (h0 : mdc.2.2.2.2 = []) (hc : zCode mdc ∈ zTg) (hlink : Cond.methodLink md.1.cls index mdc.1 ∈ zTg) (hstat : Cond.static mdc.1 ∈ zTg) (hini : Cond.initialized mdc.1.cls ∈ zTg) (hds : zdsc mdc.1 n) : zCdRow 99 n m pc mdc := by
  intro p l e R s mid args below meth cc H locs cells slots lsA As rest rm P hF hD hc1 hc2 r3 r4 hbl hPc hsz hcat hlen hrec T hT X
  obtain ⟨hx, hb, hml, hown, hts, hlk, -, -, htab, -⟩ := hF.of hm
  have hcode := zcode_of h0 (hts _ hc)
  obtain ⟨mk, hnamed⟩ := Cond.code_named hcode
  obtain ⟨methM, cM, hmethM, -, -, -, -, -, -, hsigM⟩ := Cond.code_spec hnamed hcode
  have hstatic : methM.isStatic = true := Cond.static_spec hnamed hmethM (hts _ hstat)
  obtain ⟨kP, hkP, -⟩ := className_of_methodNamed hnamed
  have hinitP : kP.init = .initialized := Cond.initialized_spec (findClass_of_methodNamed hnamed) hkP (hts _ hini)
  obtain ⟨vm₁, X₁, hstep₁⟩ := X.invokestatic hx hown (hts _ hlink) hnamed hmethM hstatic hkP hinitP ⟨hds.1, hds.2.1⟩ (g := F0 mid pc lsA (As.reverse ++ rest)) rfl (argsL := As) (rest := rest) (zlen_of hds hlen _ hsigM) rfl (by rw [hb]; exact hd)
  obtain ⟨t, a1, b1⟩ := zdie_via X₁ (g := F0 mid pc lsA rest) hD (fun U hW => zcode_of h0 (word_at hW ((zgoodc hc) _ List.mem_cons_self).2 (hts _ hc))) (fun U hW => word_at hW (good_of_word (List.mem_filter.mp hini).2) (hts _ hini)) (fun w hw a' U hW => word_at hW ((zgoodc hc) w hw).2 (hts w ((zgoodc hc) w hw).1)) hnamed rfl hsz (by rw [hb]; exact hd) (zmr hcat) r3 r4 hc1 hc2 (hbl _ _ _ _ (hPc (T.setVm vm₁) hT X₁.warmed)) (zmiss (by rw [htab, ht])) hlk rfl rfl
  exact ⟨t, hstep₁ t fun acts => (by rw [doInvoke_state]; exact a1), b1⟩
theorem zdie_met {G : zgl} {ctx : zctx} {mi d : Nat} {as l : List Nat} {h : zh} {o : zo} {ad : zam} (hG : zEok G.2.1) (hP : zPre G ctx) (hmi : zM mi = some mdc) (hpl : plainName mdc.1.cls = true) (h0 : mdc.2.2.2.2 = []) (hW : zW G mi 0 d l [] h o) (hl : l.length = mdc.2.2.1) (hloc : zLoc mdc.2.2.1 as l) (h8 : o.1 = 8) :
    zDie G.1 mdc.1 (zCode mdc :: zTg) (zrm d (o.2.2.2.1 - h.2.1) (o.2.2.2.2.1 - h.2.2.1)) (zPc G ad as h) := by
  obtain ⟨y, cc, mL, rt, hh⟩ := mdc
  obtain rfl : hh = [] := h0
  have hN : ∀ (args : Array Value) (s : State), zPc G ad as h args s → ∀ w ∈ zTn, w.before args s = true := fun args s hPc w hw => by
    obtain ⟨-, -, -, hE, -⟩ := hPc
    exact zNw_warm (List.mem_filter.mp hw).2 hE.1 (hP.2.2.2.2.2.2.2.2.1 w hw #[])
  refine zdie_entry hpl rfl fun p e s mid args below meth c s₁ B hml ht hPc => ?_
  have hF : zF mi p s mid args meth c := ⟨_, hmi, B.exec, B.bytes, hml, findClass_of_methodNamed B.named, fun w hw => atoms_spec B.pre w (List.mem_cons_of_mem _ hw), B.notSynchronized, B.returns, (name_of_methodNamed B.named B.method).1, List.eq_nil_iff_forall_not_mem.mpr ht, hN args s hPc⟩
  obtain ⟨vals, rfl, ha, hE, hH⟩ := hPc
  obtain ⟨e1, e2⟩ := hloc G.2.1 ad vals hG ha
  rw [lg_entry_eq]
  obtain ⟨f1, f2, -⟩ := lv_entry vals e1
  refine hW p e _ s mid vals.toArray below meth c s.heap [] 0 0 _ ad _ [] hF hE va_S.rf hH ⟨by rw [hml]; exact f1, f2, by rw [hml]; exact hl, fun j v h1 h2 => by rw [List.getElem?_toArray]; exact e2 j v h1 h2⟩ zall.nil
    ⟨Nat.le_refl _, Nat.le_refl _, by rw [Nat.zero_add]; exact Nat.le_refl _, by rw [Nat.zero_add]; exact Nat.le_refl _⟩ ⟨⟨fun z => by omega, fun z => by omega, fun _ t ht => ht⟩, fun z => by omega, fun z => by omega⟩
/-- a call that dies, as the executor sees it -/
noncomputable def s_cdie (vi mi mx na : Nat) : zS := fun _ ih _ dep _ st h => zargs na st [] fun as rest => zsm rest 8 (@Nat.rec (fun _ => zR) none (fun d _ => zent as mx fun l => (fun k : zR => @Bool.rec (fun _ => zR) (List.rec (motive := fun _ => zR) none (fun r _t _ => zcell h r fun tag _ _ => @Bool.rec (fun _ => zR) none k (Nat.beq tag vi)) as) k (Nat.beq vi 99)) (Option.rec (motive := fun _ => zR) none (fun o => @Bool.rec (fun _ => zR) none (some (8, 0, o.2.2)) (Nat.beq o.1 8)) (ih mi 0 d l [] h))) dep)
theorem ok_cdie {vi mi mx na : Nat} (hm : zM m = some md) (hmi : zM mi = some mdc) (hmx : mdc.2.2.1 = mx) (hmx2 : mx ≤ 200) (hvi : vi = 99 ∨ vi < 16) (hpl : plainName mdc.1.cls = true) (h0 : mdc.2.2.2.2 = []) (row : zCdRow vi na m pc mdc) : zOK zPre m pc (s_cdie vi mi mx na) := by
  intro G ctx ih hG hN hP hI dep ls st h o ho
  obtain ⟨as, rest, hst, hna, ho1⟩ := zargs_s ho
  rw [List.append_nil] at ho1
  obtain ⟨ho2, hsm⟩ := zsm_s ho1
  obtain ⟨d, hdep, ho3⟩ := zN ho2
  obtain ⟨l, ho4, hl, hloc⟩ := zent_s ho3
  subst hmx
  have hrc : ∃ o1, ih mi 0 d l [] h = some o1 ∧ o1.1 = 8 ∧ (8, 0, o1.2.2) = o ∧ (vi ≠ 99 → ∃ r t k, as = r :: t ∧ zcell h r (fun tag _ _ => @Bool.rec (fun _ => zR) none k (Nat.beq tag vi)) = some o) := by
    rcases zBc ho4 with ⟨b1, h9⟩ | ⟨b1, h9⟩
    · obtain ⟨o1, h1, h2⟩ := zOp h9
      obtain ⟨b2, h2⟩ := zB h2
      exact ⟨o1, h1, zbeq b2, Option.some.inj h2, fun z => absurd (zbeq b1) z⟩
    · obtain ⟨r, t, e1, h9⟩ := zLs h9
      obtain ⟨c, h7, -⟩ := zcell_s h9
      obtain ⟨-, h6⟩ := zB h7
      obtain ⟨o1, h1, h2⟩ := zOp h6
      obtain ⟨b2, h2⟩ := zB h2
      exact ⟨o1, h1, zbeq b2, Option.some.inj h2, fun _ => ⟨r, t, _, e1, h9⟩⟩
  obtain ⟨o1, h1, h8, hoe, hrecv⟩ := hrc
  obtain ⟨m1, w1⟩ := hI mi 0 d l [] h o1 h1
  have ho22 : o.2.2 = o1.2.2 := by rw [← hoe]
  have ho8 : o.1 = 8 := by rw [← hoe]
  refine ⟨by rw [ho22]; exact m1, fun p e R s mid args below meth cc H locs cells slots Q ad lsA vals q1 q2 q3 q4 q5 q6 q7 q8 => ?_⟩
  subst hst
  obtain ⟨xs, ys, rfl, hxs, hys⟩ := q6.split
  have hAs : zall G.2.1 ad as xs.reverse := by have := hxs.rev; rwa [List.reverse_reverse] at this
  obtain ⟨As, hAe⟩ : ∃ As, As = xs.reverse := ⟨_, rfl⟩
  have hxe : xs = As.reverse := by rw [hAe, List.reverse_reverse]
  rw [← hAe] at hAs
  rw [hxe]
  obtain ⟨y1, y2, y3, y4⟩ := id q7
  rw [ho22] at y3 y4
  have hQ := q8.1.2.2 ho8
  intro T hT X
  obtain ⟨t, a1, b1⟩ := row p G.1 e R s mid args below meth cc H locs cells slots lsA As ys (zrm d (o1.2.2.2.1 - h.2.1) (o1.2.2.2.2.1 - h.2.2.1)) (zPc G ad as h) q1 (zdie_met hG hP hmi hpl h0 w1 hl hloc h8) y3 y4 (zlr1 hdep y1) (zlr2 hdep y2 hmx2) zPc_blind
    (fun U hU hW => ⟨As, rfl, hAs, ⟨State.WarmedH.trans q2.1 hW, by rw [hU]; exact Nat.le_trans q2.2.1 q3.1, fun q hq => by rw [hU]; exact zold q2 q3 hq⟩, by rw [hU]; exact q4⟩) q5.1 (hsm G.2.1 ad ys hG hys) (by rw [← hAs.1]; exact hna)
    (fun z => by
      obtain ⟨r, t, k, e1, e2⟩ := hrecv z
      subst e1
      obtain ⟨X, As', rfl, r1, -⟩ := hAs.inv
      obtain ⟨b, q, cell, rfl, c1, c2⟩ := zrecv hP q2 q3 q4 r1 (hvi.resolve_left z) e2
      exact ⟨b, As', q, cell, rfl, c1, c2⟩) T hT X
  exact ⟨t, a1, hQ t b1⟩
end Dies
section Die2
variable {m pc nx : Nat} {md mdc : zMD}
theorem zwp_aast {Q : Unit → Bool → List Action → State → Prop} {E : Control → List Action → State → Prop} {e : Env} {d : Bool} {acts : List Action} {s : State} {f : JFrame} {a v : Addr} {i : Int32} {rest : List Value} {c cv : Cell} {k kv kcomp : Class} {comp : ClassId} {t : FieldType}
    (hs : s.topJava?.isSome) (hstack : f.stack = .ref v :: .int i :: .ref a :: rest) (hcell : s.heap[a]? = some c) (hobj : ∀ x, c.vm ≠ .statics x) (hknown : c.vm ≠ .unknown)
    (hk : s.vm.classes[c.cls]? = some k) (hkind : k.kind = .array comp t) (hi : ¬ i < 0) (hlt : i.toNatClampNeg < c.slots.size)
    (hv : s.heap[v]? = some cv) (hvobj : ∀ x, cv.vm ≠ .statics x) (hkv : s.vm.classes[cv.cls]? = some kv) (hkcomp : s.vm.classes[comp]? = some kcomp)
    (hinst : s.vm.assignable cv.cls comp = false) :
    wp Op.aastore.sem Q E e d acts (s.setTop f) ↔ E (.throwNew "java/lang/ArrayStoreException" (some kv.shown)) acts (s.setTop { f with stack := rest }) := by
  have harr : s.isArray c := ⟨hobj, k, hk, comp, t, hkind⟩
  simp [Op.aastore.sem, hs, hstack, hcell, hobj, hknown, hk, hkind, hi, hlt, Nat.not_le.mpr hlt, harr, hv, hvobj, hkv, hkcomp, hinst]
theorem zdie_aast {p : Program} {l : Launch} {e : Env} {R : Room} {s : State} {mid : MethodId} {args : Array Value} {below : List Frame} {meth : Method} {c : Code} {T : State} {locs : List Loc} {cells slots : Nat} (X : Stand p l e R s mid args below meth c T locs cells slots) (hexec : p.tables.exec = Jvm.exec)
    {a v : Addr} {cell cv : Cell} {j : Int32} {k kv kcomp : Class} {comp : ClassId} {t : FieldType}
    (hcell : T.heap[a]? = some cell) (hobj : ∀ q, cell.vm ≠ .statics q) (hknown : cell.vm ≠ .unknown)
    (hk : s.vm.classes[cell.cls]? = some k) (hkind : k.kind = .array comp t) (hkcomp : s.vm.classes[comp]? = some kcomp)
    (hin : ¬ j < 0 ∧ j.toNatClampNeg < cell.slots.size)
    (hv : T.heap[v]? = some cv) (hvobj : ∀ q, cv.vm ≠ .statics q) (hkv : s.vm.classes[cv.cls]? = some kv) (hinst : s.vm.assignable cv.cls comp = false)
    {g : JFrame} (hg : g.method = mid) {rest : List Value} (hstack : g.stack = .ref v :: .int j :: .ref a :: rest) (hdg : decode c.code g.pc = .ok (.aastore, 1)) (hx : Refuse.Misses c g.pc) (hlk : meth.locks = false) (hl : g.locked = none) (he : g.entered = []) :
    ∃ t, Steps p.tables e below (T.setTop g) t ∧ Refuse.Cert p.tables below t := by
  have hal : s.vm.Alike T.vm := X.warmed.alike
  obtain ⟨k₁, hk₁, hek⟩ := hal.2.2 _ _ hk
  have hkind₁ : k₁.kind = .array comp t := by rw [hek]; exact hkind
  obtain ⟨kcomp₁, hkcomp₁, -⟩ := hal.2.2 _ _ hkcomp
  obtain ⟨kv₁, hkv₁, -⟩ := hal.2.2 _ _ hkv
  have hinst₁ : T.vm.assignable cv.cls comp = false := by rw [hal.assignable]; exact hinst
  have hfr : (T.setTop { g with stack := rest }).frames = .java { g with stack := rest } :: below := by rw [State.frames_setTop' _ X.here.top, X.tail]
  refine ⟨(T.setTop { g with stack := rest }).pushFrame (.throwNew "java/lang/ArrayStoreException" (some kv₁.shown) none), ?_,
    Refuse.cert_raise (m := mid) (N := .throwNew "java/lang/ArrayStoreException" (some kv₁.shown) none) (f := { g with stack := rest }) hx X.method' X.code hlk (by rw [Refuse.frames_pushFrame _ (Refuse.ok_of_frames hfr), hfr]) (by exact trivial) hg hl he⟩
  subst hg
  jvm_step X.here [hexec, hdg, zwp_aast (e := e) (s := T) (f := g) X.here.top hstack hcell hobj hknown hk₁ hkind₁ hin.1 hin.2 hv hvobj hkv₁ hkcomp₁ hinst₁]
  exact Steps.refl _
/-- the row that no row of rows takes -/
def zBad (G : zgl) : Prop := ∃ (cell : Cell) (kv : Class), G.2.2.2.2.heap[G.2.1.2.1 1]? = some cell ∧ (∀ q, cell.vm ≠ .statics q) ∧ G.2.2.2.2.vm.classes[cell.cls]? = some kv ∧ G.2.2.2.2.vm.assignable cell.cls (G.2.2.2.1 20) = false
def zPreW (G : zgl) (ctx : zctx) : Prop := zPre G ctx ∧ zBad G
noncomputable def s_die : zS := fun _ _ _ _ _ st h => List.rec (motive := fun _ => zR) none (fun v t _ => List.rec (motive := fun _ => zR) none (fun i t _ => List.rec (motive := fun _ => zR) none (fun r _ _ => @Bool.rec (fun _ => zR) none (@Bool.rec (fun _ => zR) none (@Bool.rec (fun _ => zR) none (zcel h (Nat.shiftRight r 4) fun tag n _ => @Bool.rec (fun _ => zR) none (@Bool.rec (fun _ => zR) none (some (8, 0, h)) (Nat.ble (Nat.succ (Nat.shiftRight i 4)) n)) (Nat.beq tag 27)) (Nat.beq (Nat.land r 15) 4)) (Nat.beq (Nat.land i 15) 0)) (Nat.beq v 22)) t) t) st
theorem ok_die (hm : zM m = some md) (hd : decode md.2.1 pc = .ok (.aastore, 1)) (ht : md.2.2.2.2 = []) : zOK zPreW m pc s_die := by
  intro G ctx ih hG hN hPw hI dep ls st h o ho
  obtain ⟨hP, cellV, kv, v1, v2, v3, v4⟩ := hPw
  obtain ⟨v, t, rfl, ho⟩ := zLs ho
  obtain ⟨i, t, rfl, ho⟩ := zLs ho
  obtain ⟨r, t, rfl, ho⟩ := zLs ho
  obtain ⟨b1, ho⟩ := zB ho
  obtain ⟨b2, ho⟩ := zB ho
  obtain ⟨b3, ho⟩ := zB ho
  obtain ⟨la, ho⟩ := zcel_s ho
  obtain ⟨b4, ho⟩ := zB ho
  obtain ⟨b5, ho⟩ := zB ho
  have b1 : v = 22 := zbeq b1
  have b2 := zkq b2
  have b3 := zkq b3
  have b4 : (zG h.2.2.2 (Nat.shiftRight r 4)).1 = 27 := zbeq b4
  have b5 : Nat.shiftRight i 4 < (zG h.2.2.2 (Nat.shiftRight r 4)).2.1 := zble b5
  rw [zs4] at la b4
  rw [zs4, zs4] at b5
  have e : (8, 0, h) = o := Option.some.inj ho
  subst e
  subst b1
  refine ⟨zmo.rf h, fun p e R s mid args below meth cc H locs cells slots Q ad lsA vals q1 q2 q3 q4 q5 q6 q7 q8 => ?_⟩
  obtain ⟨X, vals, rfl, r1, hv1⟩ := q6.inv
  obtain ⟨I, vals, rfl, r2, hv2⟩ := hv1.inv
  obtain ⟨Y, vals, rfl, r3, hv3⟩ := hv2.inv
  obtain ⟨-, rfl⟩ := (zr4 b3 Y).mp r3
  obtain ⟨j, rfl, hj, rfl⟩ := zn0 b2 r2
  have r1 := (zr6 (v := 22) rfl X).mp r1
  have r1 : X = .ref (G.2.1.2.1 1) := r1
  subst r1
  obtain ⟨-, -, g3, g4, es, g5⟩ := id q4
  obtain ⟨⟨w0, w1⟩, w2⟩ := g5 _ la
  rw [zq16] at b5
  have hQ := q8.1.2.2 rfl
  obtain ⟨hx, hb, hml, hown, hts, hlk, -, -, htab, -⟩ := q1.of hm
  have hK := zK hP q2
  obtain ⟨kA, k1, k2⟩ := hP.2.2.2.1 s q2.1.alike
  obtain ⟨-, kI, hkI, comp, hkind⟩ := (hK.2 _ _ (ztys_at (k := 20) (by omega) (by omega))).1 0 (fun _ => .null)
  have hkI : s.vm.classes[G.2.2.2.1 20]? = some kI := hkI
  obtain ⟨kv1, hkv1, -⟩ := q2.1.alike.2.2 _ _ v3
  have hin : s.vm.assignable cellV.cls (G.2.2.2.1 20) = false := by rw [q2.1.alike.assignable]; exact v4
  rcases w1 with ⟨z, -⟩ | ⟨z, -⟩ | ⟨z, -⟩ | ⟨z, -⟩ | ⟨z, f, hE, hf⟩ | ⟨z, -⟩
  · exfalso; omega
  · exfalso; omega
  · exfalso; omega
  · exfalso; omega
  · rw [b4] at hE
    rw [hE] at w2
    have hc : H[ad.2 (r / 16)]? = some (vp_cell _ _) := w2
    have hin0 : vp_in (nI j) (zG h.2.2.2 (r / 16)).2.1 := nI_in b5 (by omega)
    intro T hT X
    obtain ⟨t2, a1, b1⟩ := zdie_aast X hx (a := ad.2 (r / 16)) (v := G.2.1.2.1 1) (by rw [hT]; exact hc) (fun q h => by cases h) (fun h => by cases h) k1 k2 hkI ⟨fun q => hin0 (Or.inl q), by show _ < (arrV _ _ _).slots.size; rw [arrV_size]; exact Nat.not_le.mp fun q => hin0 (Or.inr q)⟩ (by rw [hT, zold q2 q3 (Array.getElem?_eq_some_iff.mp v1).1]; exact v1) v2 hkv1 hin (g := F0 mid pc lsA (.ref (G.2.1.2.1 1) :: .int (nI j) :: .ref (ad.2 (r / 16)) :: vals)) rfl rfl (by rw [hb]; exact hd) (zmiss (by rw [htab, ht])) hlk rfl rfl
    exact ⟨t2, a1, hQ t2 b1⟩
  · exfalso; omega
end Die2
