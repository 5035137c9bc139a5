section Calls
/-- a method's word -/
def zCode (md : zMD) : Cond := match md.2.2.2.2 with
  | [] => Cond.code md.1 md.2.1 md.2.2.1 md.2.2.2.1
  | x :: t => Cond.codeWith md.1 md.2.1 md.2.2.1 md.2.2.2.1 (x :: t)
theorem zent_s {o : zo} : ∀ {as : List Nat} {n : Nat} {k : List Nat → zR}, zent as n k = some o → ∃ l, k l = some o ∧ l.length = n ∧ ∀ (E : zen) (ad : zam) (vals : List Value), zEok E → zall E ad as vals → (lg_sl vals).length ≤ n ∧ ∀ (j v : Nat), l[j]? = some v → v % 16 ≠ 9 → ∃ x, (lg_sl vals ++ List.replicate (n - (lg_sl vals).length) Slot.unset)[j]? = some (.val x) ∧ zrel E ad v x
  | [], n, k, h => by
    have h : zrep n 9 [] k = some o := h
    rw [zrep_s, List.append_nil] at h
    refine ⟨_, h, by simp, fun E ad vals hE ha => ?_⟩
    obtain rfl := ha.inil
    refine ⟨by simp [lg_sl], fun j v hj h9 => ?_⟩
    rw [List.getElem?_replicate] at hj
    split at hj
    · cases hj; exact absurd rfl h9
    · cases hj
  | a :: as, n, k, h => by
    obtain ⟨j, rfl, h⟩ := zN h
    rcases zc01 h with ⟨c1, h⟩ | ⟨c1, h⟩
    · rw [zl15] at c1
      obtain ⟨l, h1, h2, h3⟩ := zent_s (as := as) h
      refine ⟨a :: l, h1, by simp [h2], fun E ad vals hE ha => ?_⟩
      obtain ⟨x, xs, rfl, r1, r2⟩ := ha.inv
      obtain ⟨e1, e2⟩ := h3 E ad xs hE r2
      have hc := zcat1 hE c1 r1
      have es : lg_sl (x :: xs) = .val x :: lg_sl xs := by simp [lg_sl, hc]
      rw [es]
      have e : j + 1 - (Slot.val x :: lg_sl xs).length = j - (lg_sl xs).length := by simp
      rw [e]
      refine ⟨by simp; omega, fun i v hi h9 => ?_⟩
      cases i with
      | zero => cases hi; exact ⟨x, rfl, r1⟩
      | succ i => exact e2 i v hi h9
    · rw [zl15] at c1
      obtain ⟨i, rfl, h⟩ := zN h
      obtain ⟨l, h1, h2, h3⟩ := zent_s (as := as) h
      refine ⟨a :: 9 :: l, h1, by simp [h2], fun E ad vals hE ha => ?_⟩
      obtain ⟨x, xs, rfl, r1, r2⟩ := ha.inv
      obtain ⟨e1, e2⟩ := h3 E ad xs hE r2
      have hc := zcat2 c1 r1
      have es : lg_sl (x :: xs) = .val x :: .second :: lg_sl xs := by simp [lg_sl, hc]
      rw [es]
      have e : i + 1 + 1 - (Slot.val x :: Slot.second :: lg_sl xs).length = i - (lg_sl xs).length := by simp
      rw [e]
      refine ⟨by simp; omega, fun q v hi h9 => ?_⟩
      rcases q with _ | _ | q
      · cases hi; exact ⟨x, rfl, r1⟩
      · cases hi; exact absurd rfl h9
      · exact e2 q v hi h9
/-- a call's start -/
def zPc (G : zgl) (ad : zam) (as : List Nat) (h : zh) : Array Value → State → Prop := fun a U => ∃ vals, a = vals.toArray ∧ zall G.2.1 ad as vals ∧ zE0 G U ∧ zHR G.2.1 G.2.2.1 G.2.2.2.1 G.2.2.2.2.heap.size ad h U.heap
/-- .. its end -/
def zQc (G : zgl) (ad : zam) (o : zo) : Array Value → State → Outcome → State → Prop := fun _ st oc t => ∃ (ov : Option Value) (ad' : zam), oc = .returned ov ∧ zle ad ad' ∧ zHR G.2.1 G.2.2.1 G.2.2.2.1 G.2.2.2.2.heap.size ad' o.2.2 t.heap ∧ (o.1 = 0 → ov = none) ∧ (o.1 = 1 → ∃ X, ov = some X ∧ zrel G.2.1 ad' o.2.1 X) ∧ o.1 ≠ 2 ∧ va_F (zA G) st t
/-- .. or what it throws -/
def zXC (G : zgl) (ad : zam) (o : zo) : String → State → State → Prop := fun E st t => E = zxn o.2.1 ∧ o.1 = 2 ∧ ∃ ad', zle ad ad' ∧ zHR G.2.1 G.2.2.1 G.2.2.2.1 G.2.2.2.2.heap.size ad' o.2.2 t.heap ∧ va_F (zA G) st t
theorem zPc_blind {G : zgl} {ad : zam} {as : List Nat} {h : zh} : FrameBlind (zPc G ad as h) := fun a U g mk hp => hp
def zLoc (nL : Nat) (as l : List Nat) : Prop := ∀ (E : zen) (ad : zam) (vals : List Value), zEok E → zall E ad as vals → (lg_sl vals).length ≤ nL ∧ ∀ (j v : Nat), l[j]? = some v → v % 16 ≠ 9 → ∃ x, (lg_sl vals ++ List.replicate (nL - (lg_sl vals).length) Slot.unset)[j]? = some (.val x) ∧ zrel E ad v x
def zrm (d mc ms : Nat) : Room := { frames := d + 20, cells := mc, slots := ms, locals := 300 * d + 600 }
/-- the body of a method that is called -/
theorem zBody {G : zgl} {mi d : Nat} {mdc : zMD} {as l : List Nat} {h : zh} {o : zo} {ad : zam} (hG : zEok G.2.1) (hmi : zM mi = some mdc) (hW : zW G mi 0 d l [] h o) (hl : l.length = mdc.2.2.1) (hloc : zLoc mdc.2.2.1 as l) (h7 : o.1 ≠ 7) (h8 : o.1 ≠ 8)
    {p : Program} {e : Env} {s : State} {mid : MethodId} {args : Array Value} {below : List Frame} {meth : Method} {c : Code} (hF : zF mi p s mid args meth c) (hPc : zPc G ad as h args s) :
    W p G.1 e (zrm d (o.2.2.2.1 - h.2.1) (o.2.2.2.2.1 - h.2.2.1)) s mid args below meth c s.heap [] 0 0 (vx_MQ below (zQc G ad o) (zXC G ad o) args s (o.2.2.2.1 - h.2.1) (o.2.2.2.2.1 - h.2.2.1) (zA G)) (entryFrame mid args mdc.2.2.1) := by
  obtain ⟨vals, rfl, ha, hE, hH⟩ := hPc
  obtain ⟨e1, e2⟩ := hloc G.2.1 ad vals hG ha
  rw [lg_entry_eq]
  obtain ⟨hx, hb, hml, -, -, hlk, -⟩ := hF.of hmi
  obtain ⟨f1, f2, -⟩ := lv_entry vals e1
  refine hW p e _ s mid vals.toArray below meth c s.heap [] 0 0 _ ad _ [] hF hE va_S.rf hH ⟨by rw [hml]; exact f1, f2, by rw [hml]; exact hl, fun j v h1 h2 => by rw [List.getElem?_toArray]; exact e2 j v h1 h2⟩ zall.nil
    ⟨Nat.le_refl _, Nat.le_refl _, by rw [Nat.zero_add]; exact Nat.le_refl _, by rw [Nat.zero_add]; exact Nat.le_refl _⟩ ⟨⟨fun h0 ad' H' locs' ls' pc' k1 k2 k3 k4 k5 => ?_, fun z => absurd z h7, fun z => absurd z h8⟩, fun h1 ad' H' locs' ls' pc' X i k1 k2 k3 k4 k5 k6 => ?_, fun h2 => ?_⟩
  · rw [Nat.zero_add, Nat.zero_add]
    exact vx_ret (W.vret hx rfl k4 (fun t ht _ => ⟨none, ad', rfl, k1, by rw [ht]; exact k2, fun _ => rfl, fun z => by omega, by omega, by rw [ht]; exact k3.1, fun q hq hn => by rw [ht]; exact k3.2.1 q hq hn⟩) (fun q hq => k3.2.2 q hq) k5 hlk)
  · rw [Nat.zero_add, Nat.zero_add]
    have hq : ∀ t : State, t.heap = H' → zQc G ad o vals.toArray s (.returned (some X)) t := fun t ht => ⟨some X, ad', rfl, k1, by rw [ht]; exact k2, fun z => by omega, fun _ => ⟨X, rfl, k4⟩, by omega, by rw [ht]; exact k3.1, fun q hq hn => by rw [ht]; exact k3.2.1 q hq hn⟩
    have hf : ∀ q ∈ locs', zA G q.base := fun q hq => k3.2.2 q hq
    obtain ⟨ty, hty, ⟨v, rfl, hn, rfl⟩ | ⟨v, rfl, rfl, rfl⟩ | ⟨hX, hrt, rfl⟩ | ⟨v, rfl, rfl, rfl⟩ | ⟨v, rfl, rfl, rfl⟩⟩ := k5
    · exact vx_ret (W.zret hx rfl hty hn (fun t ht _ => hq t ht) hf k6 hlk)
    · exact vx_ret (W.lret hx rfl hty (fun t ht _ => hq t ht) hf k6 hlk)
    · exact vx_ret (W.aret hx rfl hty hrt hX (fun t ht _ => hq t ht) hf k6 hlk)
    · exact vx_ret (W.dret hx rfl hty (fun t ht _ => hq t ht) hf k6 hlk)
    · exact vx_ret (W.fret hx rfl hty (fun t ht _ => hq t ht) hf k6 hlk)
  · exact ⟨_, _, _, _, _, rfl, by rw [Nat.zero_add]; exact Nat.le_refl _, by rw [Nat.zero_add]; exact Nat.le_refl _, fun z hz => hz, fun t ad' w1 w2 w3 w4 w5 => ⟨rfl, h2, ad', w2, w3, w4, w5⟩⟩
end Calls
section BodiesF
variable {l : Launch}
theorem vx_ofWF {y : MethodName} {ws ws' : List Cond} {rm : Room} {Pc : Array Value → State → Prop} {Qc : Array Value → State → Outcome → State → Prop} {XC : String → State → State → Prop} {mc ms : Nat} {free : Addr → Prop} {cc : ByteArray} {maxL : Nat} {ret : Option FieldType}
    (hy : plainFor y = true) (hw : ws = Cond.code y cc maxL ret :: ws')
    (body : ∀ p e s m args below meth c s₁, BodyLoose p l y (headSpec ws rm) cc maxL ret e s m args below meth c s₁ → c.maxLocals = maxL → (∀ x ∈ c.exceptionTable.toList, False) → Pc args s →
      W p l e (headSpec ws rm).room s m args below meth c s.heap [] 0 0 (vx_MQ below Qc XC args s mc ms free) (entryFrame m args maxL)) : vx_Met l y ws rm Pc Qc XC mc ms free := by
  refine MetFree.of_bodySF (code := cc) (maxLocals := maxL) (ret := ret) hy ?_ ?_
  · intro args s m h hn
    obtain ⟨meth, c, h1, h2, h3, h4, h5, h6, -, -⟩ := Cond.code_spec hn (atoms_spec (ws := ws) h _ (by rw [hw]; exact List.mem_cons_self))
    exact ⟨meth, c, h1, h2, h3, h4, h5, h6⟩
  · intro p e s m args below meth c s₁ B hml hP _
    have hh0 : s₁.heap = s.heap := by rw [B.state]; rfl
    have ht : ∀ x ∈ c.exceptionTable.toList, False := by
      obtain ⟨meth9, c9, h1, h2, -, -, -, -, h7, -⟩ := Cond.code_spec B.named (atoms_spec (ws := ws) B.pre _ (by rw [hw]; exact List.mem_cons_self))
      cases Option.some.inj (h1.symm.trans B.method)
      cases Option.some.inj (h2.symm.trans (Stand.of_body B).code)
      intro x hx
      rw [Array.isEmpty_iff.mp h7] at hx
      cases hx
    obtain ⟨t, a1, o, b1, b2, b3⟩ := body p e s m args below meth c s₁ B hml ht hP s₁ hh0 (Stand.of_body B)
    exact ⟨t, o, a1, b1, b2, b3⟩
theorem vx_ofWHF {l : Launch} {y : MethodName} {ws ws' : List Cond} {rm : Room} {Pc : Array Value → State → Prop} {Qc : Array Value → State → Outcome → State → Prop} {XC : String → State → State → Prop} {mc ms : Nat} {free : Addr → Prop} {cc : ByteArray} {maxL : Nat} {ret : Option FieldType} {hh : List (Nat × Nat × Nat × Nat)}
    (hy : plainFor y = true) (hw : ws = Cond.codeWith y cc maxL ret hh :: ws')
    (body : ∀ p e s m args below meth c s₁, BodyLoose p l y (headSpec ws rm) cc maxL ret e s m args below meth c s₁ → c.maxLocals = maxL → Pc args s →
      W p l e (headSpec ws rm).room s m args below meth c s.heap [] 0 0 (vx_MQ below Qc XC args s mc ms free) (entryFrame m args maxL)) : vx_Met l y ws rm Pc Qc XC mc ms free := by
  refine MetFree.of_bodySF (code := cc) (maxLocals := maxL) (ret := ret) hy ?_ ?_
  · intro args s m h hn
    obtain ⟨m9, meth, c, hn9, h1, h2, h3, h4, -, h5, h6, -⟩ := Cond.codeWith_spec (atoms_spec (ws := ws) h _ (by rw [hw]; exact List.mem_cons_self))
    cases hn.symm.trans hn9
    exact ⟨meth, c, h1, h2, h3, h4, h5, h6⟩
  · intro p e s m args below meth c s₁ B hml hP _
    have hh0 : s₁.heap = s.heap := by rw [B.state]; rfl
    obtain ⟨t, a1, o, b1, b2, b3⟩ := body p e s m args below meth c s₁ B hml hP s₁ hh0 (Stand.of_body B)
    exact ⟨t, o, a1, b1, b2, b3⟩
end BodiesF
section CallsM
variable {m pc nx : Nat} {md : zMD}
/-- the contract of a method that is called -/
theorem zMet {G : zgl} {ctx : zctx} {mi d : Nat} {mdc : zMD} {as l : List Nat} {h : zh} {o : zo} {ad : zam} (hG : zEok G.2.1) (hP : zPre G ctx) (hmi : zM mi = some mdc) (hpl : plainFor mdc.1 = true) (hW : zW G mi 0 d l [] h o) (hl : l.length = mdc.2.2.1) (hloc : zLoc mdc.2.2.1 as l) (h7 : o.1 ≠ 7) (h8 : o.1 ≠ 8) :
    vx_Met G.1 mdc.1 (zCode mdc :: zTg) (zrm d (o.2.2.2.1 - h.2.1) (o.2.2.2.2.1 - h.2.2.1)) (zPc G ad as h) (zQc G ad o) (zXC G ad o) (o.2.2.2.1 - h.2.1) (o.2.2.2.2.1 - h.2.2.1) (zA G) := by
  obtain ⟨y, cc, mL, rt, hh⟩ := mdc
  have hN : ∀ (args : Array Value) (s : State), zPc G ad as h args s → ∀ w ∈ zTn, w.before args s = true := fun args s hPc w hw => by
    obtain ⟨-, -, -, hE, -⟩ := hPc
    exact zNw_warm (List.mem_filter.mp hw).2 hE.1 (hP.2.2.2.2.2.2.2.2.1 w hw #[])
  cases hh with
  | nil =>
    exact vx_ofWF hpl rfl fun p e s mid args below meth c s₁ B hml ht hPc => zBody hG hmi hW hl hloc h7 h8
      ⟨_, hmi, B.exec, B.bytes, hml, findClass_of_methodNamed B.named, fun w hw => atoms_spec B.pre w (List.mem_cons_of_mem _ hw), B.notSynchronized, B.returns, (name_of_methodNamed B.named B.method).1, List.eq_nil_iff_forall_not_mem.mpr ht, hN args s hPc⟩ hPc
  | cons x t =>
    exact vx_ofWHF hpl rfl fun p e s mid args below meth c s₁ B hml hPc => zBody hG hmi hW hl hloc h7 h8
      ⟨_, hmi, B.exec, B.bytes, hml, findClass_of_methodNamed B.named, fun w hw => atoms_spec B.pre w (List.mem_cons_of_mem _ hw), B.notSynchronized, B.returns, (name_of_methodNamed B.named B.method).1, vx_table (x := y) B (atoms_spec B.pre _ List.mem_cons_self), hN args s hPc⟩ hPc
end CallsM
