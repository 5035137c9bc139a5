section Calls2
variable {m pc nx : Nat} {md : zMD}
/-- a call that has returned or thrown -/
def zRun (p : Program) (l : Launch) (e : Env) (R : Room) (s : State) (m : MethodId) (args : Array Value) (below : List Frame) (meth : Method) (c : Code) (H : Heap) (locs : List Loc) (cells slots mc ms : Nat) (g : JFrame) (nx : Nat) (rest : List Value) (Qa : State → Outcome → State → Prop) (XC : String → State → State → Prop) (free : Addr → Prop) : Prop :=
  ∀ T : State, T.heap = H → Stand p l e R s m args below meth c T locs cells slots →
    (∃ (v : Option Value) (st₀ t T' : State) (L : List Loc), st₀.heap = H ∧ Stand p l e R s m args below meth c T' (locs ++ L) (cells + mc) (slots + ms) ∧ (∀ q ∈ L, free q.base) ∧ T'.heap = t.heap ∧ T'.vm = t.vm ∧ Qa st₀ (.returned v) t ∧
      Goes p e below T g T' { g with pc := nx, stack := v.toList ++ rest }) ∨
    (∃ (q : Addr) (st₀ t T' : State) (L : List Loc) (E : String) (ce : Cell), st₀.heap = H ∧ Stand p l e R s m args below meth c T' (locs ++ L) (cells + mc) (slots + ms) ∧ (∀ z ∈ L, free z.base) ∧ T'.heap = t.heap ∧ T'.vm = t.vm ∧ XC E st₀ t ∧ t.heap[q]? = some ce ∧ ce.vm = .none ∧ s.vm.findClass E = some ce.cls ∧
      Steps p.tables e below (T.setTop g) ((T'.setTop { g with stack := rest }).pushFrame (.throwing q)))
def zCaRow (vi na m pc nx : Nat) (mdc : zMD) : Prop := ∀ (p : Program) (l : Launch) (e : Env) (R : Room) (s : State) (mid : MethodId) (args : Array Value) (below : List Frame) (meth : Method) (cc : Code) (H : Heap) (locs : List Loc) (cells slots : Nat) (lsA : Array Slot) (As rest : List Value) (rm : Room) (Pc : Array Value → State → Prop) (Qc : Array Value → State → Outcome → State → Prop) (XC : String → State → State → Prop) (mc ms : Nat) (free : Addr → Prop), zF m p s mid args meth cc → vx_Met l mdc.1 (zCode mdc :: zTg) rm Pc Qc XC mc ms free → rm.cells = mc → rm.slots = ms → rm.frames + 1 ≤ R.frames → 8 + (mdc.2.2.1 + 11) + rm.locals ≤ R.locals → FrameBlind Pc → (∀ U : State, U.heap = H → s.WarmedH U.vm → Pc As.toArray U) → lsA.size = cc.maxLocals → (rest.map fun v => v.category).sum ≤ 8 → As.length = na →
  (vi ≠ 99 → ∃ (b : Nat) (As' : List Value) (q : vw_C) (cell : Cell), As = .ref b :: As' ∧ zcls2[vi]? = some q ∧ H[b]? = some cell ∧ cell.vm.isStatics = false ∧ s.vm.findClass q.1 = some cell.cls ∧ ∃ cC, ClassAt s q.1 cC) → (∀ q ∈ zfwl, va_Fw q.1 q.2.1 q.2.2 s) → cells + mc ≤ R.cells → slots + ms ≤ R.slots → zRun p l e R s mid args below meth cc H locs cells slots mc ms (F0 mid pc lsA (As.reverse ++ rest)) nx rest (Qc As.toArray) XC free
/-- the handlers of a place, and what the executor knows of them -/
def zhok (m pc : Nat) (md : zMD) : List (Nat × Nat × Nat) → List (Nat × Nat × Nat × Nat) → Prop
  | [], [] => True
  | h :: hs, t :: tb => (h.1 < 5 ∧ t.1 ≤ pc ∧ pc < t.2.1 ∧ t.2.2.2 ≠ 0 ∧ Cond.classLink md.1.cls t.2.2.2 (zxn h.1) ∈ zTg ∧ Cond.castable (zxn h.1) (zxn h.1) ∈ zTn ∧ zStRow 4 h.2.1 m t.2.2.1 h.2.2) ∧ zhok m pc md hs tb
  | _, _ => False
theorem znc_of : ∀ a, a < 5 → ∀ b, b < 5 → a ≠ b → (zxn a, zxn b) ∈ znc := by
  intro a ha b hb hab
  have : ((List.range 5).all fun a => (List.range 5).all fun b => decide (a = b) || decide ((zxn a, zxn b) ∈ znc)) = true := by decide +kernel
  have h1 := List.all_eq_true.mp this a (List.mem_range.mpr ha)
  have h2 := List.all_eq_true.mp h1 b (List.mem_range.mpr hb)
  simp only [Bool.or_eq_true, decide_eq_true_eq] at h2
  exact h2.resolve_left hab
theorem zhs_s {v : Nat} {f : Nat → Nat → zR} {o : zo} : ∀ {hs : List (Nat × Nat × Nat)} {tb : List (Nat × Nat × Nat × Nat)}, zhok m pc md hs tb → zhs v none f hs = some o → ∃ (pre suf : List (Nat × Nat × Nat × Nat)) (t : Nat × Nat × Nat × Nat) (h : Nat × Nat × Nat), tb = pre ++ t :: suf ∧ f h.2.1 h.2.2 = some o ∧ h.1 = v ∧ (v < 5 ∧ t.1 ≤ pc ∧ pc < t.2.1 ∧ t.2.2.2 ≠ 0 ∧ Cond.classLink md.1.cls t.2.2.2 (zxn v) ∈ zTg ∧ Cond.castable (zxn v) (zxn v) ∈ zTn ∧ zStRow 4 h.2.1 m t.2.2.1 h.2.2) ∧ ∀ z ∈ pre, z.2.2.2 ≠ 0 ∧ ∃ x, x < 5 ∧ x ≠ v ∧ Cond.classLink md.1.cls z.2.2.2 (zxn x) ∈ zTg
  | [], [], _, h => by cases h
  | [], _ :: _, k, _ => k.elim
  | _ :: _, [], k, _ => k.elim
  | (x, i, nx) :: hs, t :: tb, ⟨k1, k2⟩, h => by
    rcases zBc h with ⟨b, h0⟩ | ⟨b, h0⟩
    · have b : v = x := zbeq b
      subst b
      exact ⟨[], tb, t, (v, i, nx), rfl, h0, rfl, k1, fun z hz => by cases hz⟩
    · obtain ⟨pre, suf, t', h', e1, e2, e3, e4, e5⟩ := zhs_s (hs := hs) (tb := tb) k2 h0
      refine ⟨t :: pre, suf, t', h', by rw [e1]; rfl, e2, e3, e4, fun z hz => ?_⟩
      rcases List.mem_cons.mp hz with rfl | hz
      · refine ⟨k1.2.2.2.1, x, k1.1, fun e => ?_, k1.2.2.2.2.1⟩
        subst e
        rw [show Nat.beq x x = true from Nat.beq_refl x] at b
        cases b
      · exact e5 z hz
theorem zloc.st9 {E : zen} {ad : zam} {nL i : Nat} {l l' : List Nat} {lsA ls' : Array Slot} {X : Value} {lv : List (Nat × Value)} (hG : zEok E) (h : zloc E ad nL l lsA) (hlv : ∀ (j : Nat) (Y : Value), lsA[j]? = some (.val Y) → (j, Y) ∈ lv) (hl : l'.length = l.length) (hv : l'[i]? = some 9) (ho : ∀ (j w : Nat), j ≠ i → l'[j]? = some w → w % 16 ≠ 9 → l[j]? = some w ∧ (j + 1 = i → (18564 >>> (w % 16)) &&& 1 = 0)) (h' : lv_has ls' nL ((i, X) :: lv.filter (fun q => !(q.1 == i) && !(q.1 + 1 == i && q.2.category == 2)))) : zloc E ad nL l' ls' := by
  refine ⟨h'.1, h'.2.1, by rw [hl]; exact h.2.2.1, fun j w hw h9 => ?_⟩
  by_cases q : j = i
  · subst q
    have : 9 = w := by rw [hv] at hw; exact Option.some.inj hw
    subst this
    exact absurd rfl h9
  · obtain ⟨w1, w2⟩ := ho j w q hw h9
    obtain ⟨Y, y1, y2⟩ := h.2.2.2 j w w1 h9
    refine ⟨Y, h'.2.2 (j, Y) ?_, y2⟩
    refine List.mem_cons_of_mem _ (List.mem_filter.mpr ⟨hlv j Y y1, ?_⟩)
    have n1 : (j == i) = false := by simpa using q
    have n2 : (j + 1 == i && Y.category == 2) = false := by
      by_cases z : j + 1 = i
      · rw [zcat1 hG (w2 z) y2]; simp
      · simp [z]
    simp only [n1, n2]; rfl
theorem zrecv {G : zgl} {ctx : zctx} {s : State} {ad : zam} {h : zh} {H : Heap} {locs : List Loc} {r vi : Nat} {X : Value} {k : zR} {o : zo} (hP : zPre G ctx) (q2 : zE0 G s) (q3 : va_S (zA G) s.heap H locs) (q4 : zHR G.2.1 G.2.2.1 G.2.2.2.1 G.2.2.2.2.heap.size ad h H) (r1 : zrel G.2.1 ad r X) (hvi : vi < 16) (hz : zcell h r (fun tag _ _ => @Bool.rec (fun _ => zR) none k (Nat.beq tag vi)) = some o) :
    ∃ (b : Nat) (q : vw_C) (cell : Cell), X = .ref b ∧ zcls2[vi]? = some q ∧ H[b]? = some cell ∧ cell.vm.isStatics = false ∧ s.vm.findClass q.1 = some cell.cls ∧ ∃ cC, ClassAt s q.1 cC := by
  obtain ⟨c, ho, hc⟩ := zcell_s hz
  obtain ⟨b1, -⟩ := zB ho
  have b1 : c.1 = vi := zbeq b1
  have hlen : vi < zcls2.length := hvi
  have hq : zcls2[vi]? = some (zcls2[vi]'hlen) := List.getElem?_eq_getElem hlen
  rcases hc G ctx s ad H locs X hP q2 q3 q4 r1 (by omega) with ⟨a, E, rfl, k1, k2⟩ | ⟨kk, -, rfl, -, ⟨z, z2, r, hr, hO, -⟩ | ⟨z, -⟩⟩
  rotate_left
  · rw [b1] at hr
    cases hq.symm.trans hr
    obtain ⟨cell, c1, c2, c3, -⟩ := (zXo_O q2 hO).kept q3.2.1
    exact ⟨_, _, cell, rfl, hq, c1, c2, c3, _, ((zK hP q2).1 vi _ hq).2⟩
  · exfalso; omega
  obtain ⟨-, ⟨-, fs, rfl, hfs⟩ | ⟨z, -⟩ | ⟨z, -⟩ | ⟨z, -⟩ | ⟨z, -⟩ | ⟨z, -⟩⟩ := k1
  · rw [b1] at k2
    obtain ⟨cell, c1, c2, c3⟩ := va_recv (zK hP q2) k2 hq (q0 := 0) rfl
    exact ⟨a, _, cell, rfl, hq, c1, c2, c3, _, ((zK hP q2).1 vi _ hq).2⟩
  all_goals (exfalso; omega)
end Calls2
