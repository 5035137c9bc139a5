/-- a private method of a class above, as its receiver selects it -/
def zXs : List Cond := [.selects "java/lang/StringBuilder" ⟨"java/lang/AbstractStringBuilder", "ensureCapacityInternal", "(I)V"⟩ ⟨"java/lang/AbstractStringBuilder", "ensureCapacityInternal", "(I)V"⟩]
/-- the good words of the tables -/
def zTg : List Cond := (zXs ++ lw_tbl).filter goodWord
/-- words that stay true with what is resolved, by laws of their own -/
def zNw (w : Cond) : Bool := match w with
  | .methodLinkNest .. => true
  | .fieldLinkNest .. => true
  | .castable .. => true
  | .declares .. => true
  | .arrayOver (.object _) => true
  | .arrayOver (.array _) => true
  | _ => false
def zTn : List Cond := lw_tbl.filter zNw
theorem zNw_warm {w : Cond} (hw : zNw w = true) {s U : State} {A A' : Array Value} (hW : s.WarmedH U.vm) (h : w.before A s = true) : w.before A' U = true := by
  cases w with
  | methodLinkNest a i x hh => exact va_Nw.use rfl (va_Nw.warmM hW (va_Nw.of rfl h))
  | fieldLinkNest a i b n d hh => exact va_Nw.use rfl (va_Nw.warmF hW (va_Nw.of rfl h))
  | castable C T => exact va_Nw.use rfl (va_Nw.warmC hW (va_Nw.of rfl h))
  | declares y => exact va_Nw.use rfl (va_Nw.warmD hW (va_Nw.of rfl h))
  | arrayOver t => cases t with
    | object C => exact va_AO.use (va_AO.moved hW.alike (va_AO.of h))
    | array t => exact over_moved hW.alike h
    | _ => cases hw
  | _ => cases hw
/-- launch, names, classes, rows' classes, the start -/
abbrev zgl : Type := Launch × zen × va_G × (Nat → ClassId) × State
def zA (G : zgl) : Nat → Prop := fun q => G.2.2.2.2.heap.size ≤ q
/-- what is known of a frame: its method's -/
def zF (m : Nat) (p : Program) (s : State) (mid : MethodId) (args : Array Value) (meth : Method) (c : Code) : Prop :=
  ∃ md, zM m = some md ∧ p.tables.exec = Jvm.exec ∧ c.code = md.2.1 ∧ c.maxLocals = md.2.2.1 ∧ s.vm.findClass md.1.cls = some mid.cls ∧ (∀ w ∈ zTg, w.before args s = true) ∧ meth.locks = false ∧ meth.sig.returnType = md.2.2.2.1 ∧ meth.name = md.1.name ∧ c.exceptionTable.toList = tableOf md.2.2.2.2 ∧ (∀ w ∈ zTn, w.before args s = true)
/-- what is left of the start -/
def zE0 (G : zgl) (s : State) : Prop := G.2.2.2.2.WarmedH s.vm ∧ G.2.2.2.2.heap.size ≤ s.heap.size ∧ ∀ q, q < G.2.2.2.2.heap.size → s.heap[q]? = G.2.2.2.2.heap[q]?
def zloc (E : zen) (ad : zam) (nL : Nat) (l : List Nat) (ls : Array Slot) : Prop := ls.size = nL ∧ lv_wf ls ∧ l.length = nL ∧ ∀ (j v : Nat), l[j]? = some v → v % 16 ≠ 9 → ∃ x, ls[j]? = some (.val x) ∧ zrel E ad v x
def zmo (h h' : zh) : Prop := h.1 ≤ h'.1 ∧ h.2.1 ≤ h'.2.1 ∧ h.2.2.1 ≤ h'.2.2.1
theorem zmo.rf (h : zh) : zmo h h := ⟨Nat.le_refl _, Nat.le_refl _, Nat.le_refl _⟩
theorem zmo.tr {a b c : zh} (h : zmo a b) (k : zmo b c) : zmo a c := ⟨Nat.le_trans h.1 k.1, Nat.le_trans h.2.1 k.2.1, Nat.le_trans h.2.2 k.2.2⟩
def zroom (R : Room) (dep cells slots : Nat) (h : zh) (o : zo) : Prop := dep + 20 ≤ R.frames ∧ 300 * dep + 600 ≤ R.locals ∧ cells + (o.2.2.2.1 - h.2.1) ≤ R.cells ∧ slots + (o.2.2.2.2.1 - h.2.2.1) ≤ R.slots
/-- what may be handed back by which instruction, by the method's type -/
def zretI (rt : Option FieldType) (X : Value) (i : Instr) : Prop :=
  ∃ ty, rt = some ty ∧ ((∃ v, X = .int v ∧ narrow ty (.int v) = .int v ∧ i = .ireturn) ∨ (∃ v, X = .long v ∧ ty = .long ∧ i = .lreturn) ∨ ((X = .null ∨ ∃ a, X = .ref a) ∧ ((∃ n, ty = .object n) ∨ ∃ t, ty = .array t) ∧ i = .areturn) ∨ (∃ v, X = .double v ∧ ty = .double ∧ i = .dreturn) ∨ (∃ v, X = .float v ∧ ty = .float ∧ i = .freturn))
/-- the exceptions, by number -/
def zxn (n : Nat) : String := match n with
  | 0 => "java/lang/IndexOutOfBoundsException"
  | 1 => "java/lang/IllegalArgumentException"
  | 2 => "java/lang/ArithmeticException"
  | 3 => "java/lang/IllegalStateException"
  | _ => "java/util/NoSuchElementException"
/-- what is owed at a method's end -/
def zEnd (G : zgl) (p : Program) (e : Env) (R : Room) (s : State) (mid : MethodId) (args : Array Value) (below : List Frame) (meth : Method) (c : Code) (cells slots : Nat) (ad : zam) (h : zh) (o : zo) (Q : State → Prop) : Prop :=
  ((o.1 = 0 → ∀ (ad' : zam) (H' : Heap) (locs' : List Loc) (ls' : Array Slot) (pc' : Nat), zle ad ad' → zHR G.2.1 G.2.2.1 G.2.2.2.1 G.2.2.2.2.heap.size ad' o.2.2 H' → va_S (zA G) s.heap H' locs' → meth.sig.returnType = none → decode c.code pc' = .ok (.return_, 1) →
    W p G.1 e R s mid args below meth c H' locs' (cells + (o.2.2.2.1 - h.2.1)) (slots + (o.2.2.2.2.1 - h.2.2.1)) Q (F0 mid pc' ls' [])) ∧
   ((o.1 = 7 → ∀ (ad' : zam) (H' : Heap) (locs' : List Loc) (ls' : Array Slot), zle ad ad' → zHR G.2.1 G.2.2.1 G.2.2.2.1 G.2.2.2.2.heap.size ad' o.2.2 H' → va_S (zA G) s.heap H' locs' → zloc G.2.1 ad' c.maxLocals zl7 ls' →
    W p G.1 e R s mid args below meth c H' locs' (cells + (o.2.2.2.1 - h.2.1)) (slots + (o.2.2.2.2.1 - h.2.2.1)) Q (F0 mid 28 ls' [])) ∧
    (o.1 = 8 → ∀ t : State, Refuse.Cert p.tables below t → Q t))) ∧
  (o.1 = 1 → ∀ (ad' : zam) (H' : Heap) (locs' : List Loc) (ls' : Array Slot) (pc' : Nat) (X : Value) (i : Instr), zle ad ad' → zHR G.2.1 G.2.2.1 G.2.2.2.1 G.2.2.2.2.heap.size ad' o.2.2 H' → va_S (zA G) s.heap H' locs' → zrel G.2.1 ad' o.2.1 X → zretI meth.sig.returnType X i → decode c.code pc' = .ok (i, 1) →
    W p G.1 e R s mid args below meth c H' locs' (cells + (o.2.2.2.1 - h.2.1)) (slots + (o.2.2.2.2.1 - h.2.2.1)) Q (F0 mid pc' ls' [X])) ∧
  (o.1 = 2 → ∃ (Qc : Array Value → State → Outcome → State → Prop) (XC : String → State → State → Prop) (mc ms : Nat) (free : Addr → Prop), Q = vx_MQ below Qc XC args s mc ms free ∧ cells + (o.2.2.2.1 - h.2.1) ≤ mc ∧ slots + (o.2.2.2.2.1 - h.2.2.1) ≤ ms ∧ (∀ z, zA G z → free z) ∧
    ∀ (t : State) (ad' : zam), s.vm.Alike t.vm → zle ad ad' → zHR G.2.1 G.2.2.1 G.2.2.2.1 G.2.2.2.2.heap.size ad' o.2.2 t.heap → s.heap.size ≤ t.heap.size → (∀ q, q < s.heap.size → ¬ zA G q → t.heap[q]? = s.heap[q]?) → XC (zxn o.2.1) s t)
theorem zEnd.step {G : zgl} {p : Program} {e : Env} {R : Room} {s : State} {mid : MethodId} {args : Array Value} {below : List Frame} {meth : Method} {c : Code} {cells slots cells' slots' : Nat} {ad ad' : zam} {h h' : zh} {o : zo} {Q : State → Prop} (hE : zEnd G p e R s mid args below meth c cells slots ad h o Q) (hl : zle ad ad') (hc : cells' + (o.2.2.2.1 - h'.2.1) = cells + (o.2.2.2.1 - h.2.1)) (hs : slots' + (o.2.2.2.2.1 - h'.2.2.1) = slots + (o.2.2.2.2.1 - h.2.2.1)) : zEnd G p e R s mid args below meth c cells' slots' ad' h' o Q := by
  obtain ⟨⟨h1, h7, h8⟩, h2, h3⟩ := hE
  refine ⟨⟨fun q a1 a2 a3 a4 a5 k1 k2 k3 k4 k5 => ?_, fun q a1 a2 a3 a4 k1 k2 k3 k4 => ?_, h8⟩, fun q a1 a2 a3 a4 a5 a6 a7 k1 k2 k3 k4 k5 k6 => ?_, fun q => ?_⟩
  · rw [hc, hs]; exact h1 q a1 a2 a3 a4 a5 (hl.tr k1) k2 k3 k4 k5
  · rw [hc, hs]; exact h7 q a1 a2 a3 a4 (hl.tr k1) k2 k3 k4
  · rw [hc, hs]; exact h2 q a1 a2 a3 a4 a5 a6 a7 (hl.tr k1) k2 k3 k4 k5 k6
  · obtain ⟨Qc, XC, mc, ms, free, k1, k2, k3, k4, k5⟩ := h3 q
    exact ⟨Qc, XC, mc, ms, free, k1, by rw [hc]; exact k2, by rw [hs]; exact k3, k4, fun t a z1 z2 => k5 t a z1 (hl.tr z2)⟩
/-- THE MEANING OF A RUN: from every machine state that fits, the machine comes to the end that the executor says -/
def zW (G : zgl) (m pc dep : Nat) (ls st : List Nat) (h : zh) (o : zo) : Prop :=
  ∀ (p : Program) (e : Env) (R : Room) (s : State) (mid : MethodId) (args : Array Value) (below : List Frame) (meth : Method) (c : Code) (H : Heap) (locs : List Loc) (cells slots : Nat) (Q : State → Prop) (ad : zam) (lsA : Array Slot) (vals : List Value),
    zF m p s mid args meth c → zE0 G s → va_S (zA G) s.heap H locs → zHR G.2.1 G.2.2.1 G.2.2.2.1 G.2.2.2.2.heap.size ad h H → zloc G.2.1 ad c.maxLocals ls lsA → zall G.2.1 ad st vals → zroom R dep cells slots h o → zEnd G p e R s mid args below meth c cells slots ad h o Q →
    W p G.1 e R s mid args below meth c H locs cells slots Q (F0 mid pc lsA vals)
def zIH (G : zgl) (ih : zI) : Prop := ∀ (m pc dep : Nat) (ls st : List Nat) (h : zh) (o : zo), ih m pc dep ls st h = some o → zmo h o.2.2 ∧ zW G m pc dep ls st h o
/-- a row of the program is right -/
def zOK (Pre : zgl → zctx → Prop) (m pc : Nat) (f : zS) : Prop := ∀ (G : zgl) (ctx : zctx) (ih : zI), zEok G.2.1 → G.2.1.2.2.2 = ctx.1 → Pre G ctx → zIH G ih → ∀ (dep : Nat) (ls st : List Nat) (h : zh) (o : zo), f ctx ih m dep ls st h = some o → zmo h o.2.2 ∧ zW G m pc dep ls st h o
/-- a step that changes the place and the stack alone -/
def zStep (m pc : Nat) (vals : List Value) (pc' : Nat) (vals' : List Value) : Prop :=
  ∀ (p : Program) (l : Launch) (e : Env) (R : Room) (s : State) (mid : MethodId) (args : Array Value) (below : List Frame) (meth : Method) (c : Code) (H : Heap) (locs : List Loc) (cells slots : Nat) (Q : State → Prop) (lsA : Array Slot),
    zF m p s mid args meth c → W p l e R s mid args below meth c H locs cells slots Q (F0 mid pc' lsA vals') → W p l e R s mid args below meth c H locs cells slots Q (F0 mid pc lsA vals)
theorem zOK.pure {Pre : zgl → zctx → Prop} {m pc : Nat} {f : zS} (hf : ∀ (G : zgl) (ctx : zctx) (ih : zI) (dep : Nat) (ls st : List Nat) (h : zh) (o : zo), zEok G.2.1 → G.2.1.2.2.2 = ctx.1 → Pre G ctx → f ctx ih m dep ls st h = some o → ∃ pc' st', ih m pc' dep ls st' h = some o ∧ ∀ (ad : zam) (vals : List Value), zall G.2.1 ad st vals → ∃ vals', zall G.2.1 ad st' vals' ∧ zStep m pc vals pc' vals') : zOK Pre m pc f := by
  intro G ctx ih hG hN hP hI dep ls st h o ho
  obtain ⟨pc', st', h1, h2⟩ := hf G ctx ih dep ls st h o hG hN hP ho
  obtain ⟨h3, h4⟩ := hI m pc' dep ls st' h o h1
  refine ⟨h3, fun p e R s mid args below meth c H locs cells slots Q ad lsA vals q1 q2 q3 q4 q5 q6 q7 q8 => ?_⟩
  obtain ⟨vals', k1, k2⟩ := h2 ad vals q6
  exact k2 p G.1 e R s mid args below meth c H locs cells slots Q lsA q1 (h4 p e R s mid args below meth c H locs cells slots Q ad lsA vals' q1 q2 q3 q4 q5 k1 q7 q8)
