/-! WHAT HOLDS AT THE LAW'S ENTRY, out of the tables' words and the Statement's premises. -/
section Start
/-- all that the Statement gives of the start, a row each -/
def zNl : List Cond := flatC (Jvm.Cond.and given_1 narrow_1)
variable {s : State} {b : Nat} {A : Nat → Prop}
/-- .. -/
def zHs (b : Nat) (s : State) : Prop := ∀ c ∈ zNl, c.before #[Value.ref b] s = true
theorem zHs_of (h : (Jvm.Cond.and given_1 narrow_1).before #[Value.ref b] s = true) : zHs b s := flat_of_before _ h
abbrev zTmF (k : Nat) : Term := .field (.string "ResidueworksModel" k) "java/lang/String" "value" "[B"
/-- what a text of the reference's has -/
def zTxq (k : Nat) (l : List Int32) (j : Nat) : Bool := decide (Cond.eq (.elem (zTmF k) (.int (Int32.ofNat j))) (.int (l.getD j 0)) ∈ zNl)
def zTxw (k n : Nat) (l : List Int32) : Bool := decide (Cond.exactly (.string "ResidueworksModel" k) "java/lang/String" ∈ zNl) && (decide (Cond.eq (.field (.string "ResidueworksModel" k) "java/lang/String" "coder" "B") (.int 0) ∈ zNl) && (decide (Cond.arrayOf (zTmF k) .byte ∈ zNl) && (decide (Cond.eq (.length (zTmF k)) (.int (Int32.ofNat n)) ∈ zNl) && (List.range n).all (zTxq k l))))
theorem zTx {k n : Nat} {l : List Int32} (hs : zHs b s) (hn : n < 2 ^ 31) (hw : zTxw k n l = true) (hA : ∀ a : Nat, a < s.heap.size → ¬ A a) : ∃ a t : Nat, (Term.string "ResidueworksModel" k).eval #[Value.ref b] s none [] s = some (.ref a) ∧ va_O "java/lang/String" a A s s.heap ∧ va_OF "java/lang/String" "coder" "B" (.int 0) a A s s.heap ∧ va_OF "java/lang/String" "value" "[B" (.ref t) a A s s.heap ∧ va_T .byte t n (fun j => .int (l.getD j 0)) A s s.heap := by
  unfold zTxw at hw
  simp only [Bool.and_eq_true, decide_eq_true_eq] at hw
  obtain ⟨w1, w2, w3, w4, w5⟩ := hw
  obtain ⟨adK, adV, ⟨h1, -⟩, h2⟩ := vk_Sof (args := #[Value.ref b]) (s := s) (N := 1) (tm := fun _ => .string "ResidueworksModel" k) (len := [n]) (byt := [l]) (A := A) (fun i hi => by
      obtain rfl : i = 0 := by omega
      exact hn) (fun _ _ => hs _ w1) (fun _ _ => hs _ w2) (fun _ _ => hs _ w3) (fun i hi => by
      obtain rfl : i = 0 := by omega
      exact hs _ w4) (fun i hi j hj => by
      obtain rfl : i = 0 := by omega
      exact hs _ (of_decide_eq_true (List.all_eq_true.mp w5 j (List.mem_range.mpr hj)))) (fun i j hi hj hij => by omega) hA
  exact ⟨adK 0, adV 0, h2 0 (by decide), h1 0 (by decide)⟩
theorem zTxw_1 : zTxw 212 4 [115, 108, 99, 116] = true := by decide +kernel
theorem zTxw_2 : zTxw 235 14 [43, 45, 42, 47, 37, 109, 103, 99, 38, 124, 94, 110, 60, 62] = true := by decide +kernel
theorem zTxw_3 : zTxw 240 4 [45, 97, 126, 113] = true := by decide +kernel
theorem zTxw_4 : zTxw 252 3 [49, 48, 102] = true := by decide +kernel
theorem zTxq_5a : [0, 1, 2, 3, 4, 5, 6, 7, 8, 9, 10, 11].all (zTxq 281 [48, 49, 50, 51, 52, 53, 54, 55, 56, 57, 97, 98, 99, 100, 101, 102, 103, 104, 105, 106, 107, 108, 109, 110, 111, 112, 113, 114, 115, 116, 117, 118, 119, 120, 121, 122]) = true := by decide +kernel
theorem zTxq_5b : [12, 13, 14, 15, 16, 17, 18, 19, 20, 21, 22, 23].all (zTxq 281 [48, 49, 50, 51, 52, 53, 54, 55, 56, 57, 97, 98, 99, 100, 101, 102, 103, 104, 105, 106, 107, 108, 109, 110, 111, 112, 113, 114, 115, 116, 117, 118, 119, 120, 121, 122]) = true := by decide +kernel
theorem zTxq_5c : [24, 25, 26, 27, 28, 29, 30, 31, 32, 33, 34, 35].all (zTxq 281 [48, 49, 50, 51, 52, 53, 54, 55, 56, 57, 97, 98, 99, 100, 101, 102, 103, 104, 105, 106, 107, 108, 109, 110, 111, 112, 113, 114, 115, 116, 117, 118, 119, 120, 121, 122]) = true := by decide +kernel
theorem zTxw_5 : zTxw 281 36 [48, 49, 50, 51, 52, 53, 54, 55, 56, 57, 97, 98, 99, 100, 101, 102, 103, 104, 105, 106, 107, 108, 109, 110, 111, 112, 113, 114, 115, 116, 117, 118, 119, 120, 121, 122] = true := by
  unfold zTxw
  have e : List.range 36 = [0, 1, 2, 3, 4, 5, 6, 7, 8, 9, 10, 11] ++ ([12, 13, 14, 15, 16, 17, 18, 19, 20, 21, 22, 23] ++ [24, 25, 26, 27, 28, 29, 30, 31, 32, 33, 34, 35]) := by decide
  rw [e, List.all_append, List.all_append, zTxq_5a, zTxq_5b, zTxq_5c]
  decide +kernel
/-- a static row of ints or references: its address, what it holds -/
theorem zStat {C n d : String} {v : Value} (hl : Cond.laysStatic C n d ∈ lw_tbl) (hi : Cond.initialized C ∈ lw_tbl) (hts : ∀ w ∈ lw_tbl, w.before #[Value.ref b] s = true) (he : (Term.static C n d).eval #[Value.ref b] s none [] s = some v) (hA : ∀ a : Nat, a < s.heap.size → ¬ A a) : va_Z C n d v A s s.heap := va_Zof (hts _ hl) (hts _ hi) he hA
/-- the kinds of rows that the run makes -/
theorem zTyp {s : State} {args : Array Value} (h : ∀ w ∈ zTg, w.before args s = true) (hn : ∀ w ∈ zTn, w.before args s = true) (w0 : Cond.arrayClass .int ∈ zTg) (w1 : Cond.arrayClass .long ∈ zTg) (w2 : Cond.arrayClass .byte ∈ zTg) (w3 : Cond.arrayClass .char ∈ zTg) (w4 : Cond.arrayClass .double ∈ zTg) (w5 : Cond.arrayOver (.object "Residueworks$Whole") ∈ zTn) (w6 : Cond.arrayOver (.object "java/lang/Object") ∈ zTn) (w7 : Cond.arrayOver (.array .int) ∈ zTn) (w8 : Cond.arrayOver (.object "ResidueworksModel$Whole") ∈ zTn) :
    ∃ dA : Nat → ClassId, (∀ (k : Nat) (q : ClassId × FieldType), (ztys dA)[k]? = some q → ArrOfT s q.1 q.2 ∧ va_RA s q.1 q.2) ∧ ∃ kA : Class, s.vm.classes[dA 27]? = some kA ∧ kA.kind = .array (dA 20) (.array .int) := by
  have pr : ∀ ty, (∀ C, ty ≠ .object C) → (Cond.arrayClass ty).before args s = true → ∃ c, ArrOfT s c ty ∧ va_RA s c ty ∧ s.vm.findClass ("[" ++ ty.toString) = some c := fun ty hty hw => by
    obtain ⟨c, k, comp, e1, e2, e3⟩ := Cond.arrayClass_spec hw
    refine ⟨c, fun n z => ⟨fun q e => (by cases e), k, e2, comp, e3⟩, ?_, e1⟩
    unfold va_RA
    cases ty with
    | object C => exact absurd rfl (hty C)
    | _ => exact e1
  have ob : ∀ C, (Cond.arrayOver (.object C)).before args s = true → ∃ c, ArrOfT s c (.object C) ∧ va_RA s c (.object C) := fun C hw => by
    obtain ⟨comp, c, k, e1, -, e3, e4, e5⟩ := Cond.arrayOver_spec hw
    exact ⟨c, fun n z => ⟨fun q e => (by cases e), k, e3, comp, e4⟩, k, comp, e3, e4, e1, e5⟩
  obtain ⟨c0, a0, b0, f0⟩ := pr .int (fun C e => by cases e) (h _ w0)
  obtain ⟨c1, a1, b1, -⟩ := pr .long (fun C e => by cases e) (h _ w1)
  obtain ⟨c2, a2, b2, -⟩ := pr .byte (fun C e => by cases e) (h _ w2)
  obtain ⟨c3, a3, b3, -⟩ := pr .char (fun C e => by cases e) (h _ w3)
  obtain ⟨c4, a4, b4, -⟩ := pr .double (fun C e => by cases e) (h _ w4)
  obtain ⟨c5, a5, b5⟩ := ob _ (hn _ w5)
  obtain ⟨c6, a6, b6⟩ := ob _ (hn _ w6)
  obtain ⟨c8, a8, b8⟩ := ob _ (hn _ w8)
  obtain ⟨comp, c7, k7, e1, -, e3, e4, e5⟩ := arrayOverA_spec (hn _ w7)
  have hcomp : comp = c0 := Option.some.inj (e1.symm.trans f0)
  subst hcomp
  refine ⟨fun k => if k = 20 then comp else if k = 21 then c1 else if k = 22 then c2 else if k = 23 then c3 else if k = 24 then c4 else if k = 25 then c5 else if k = 26 then c6 else if k = 27 then c7 else c8, fun k q hk => ?_, k7, e3, e4⟩
  have hk9 : k < 9 := by
    have := (List.getElem?_eq_some_iff.mp hk).1
    simpa [ztys] using this
  have a7 : ArrOfT s c7 (.array .int) := fun n z => ⟨fun q e => (by cases e), k7, e3, comp, e4⟩
  have b7 : va_RA s c7 (.array .int) := e5
  have : k = 0 ∨ k = 1 ∨ k = 2 ∨ k = 3 ∨ k = 4 ∨ k = 5 ∨ k = 6 ∨ k = 7 ∨ k = 8 := by omega
  rcases this with rfl | rfl | rfl | rfl | rfl | rfl | rfl | rfl | rfl
  · cases hk; exact ⟨a0, b0⟩
  · cases hk; exact ⟨a1, b1⟩
  · cases hk; exact ⟨a2, b2⟩
  · cases hk; exact ⟨a3, b3⟩
  · cases hk; exact ⟨a4, b4⟩
  · cases hk; exact ⟨a5, b5⟩
  · cases hk; exact ⟨a6, b6⟩
  · cases hk; exact ⟨a7, b7⟩
  · cases hk; exact ⟨a8, b8⟩
/-- words of zTg, words of zTn -/
theorem zTg_of (hts : ∀ w ∈ lw_tbl, w.before #[Value.ref b] s = true) (hx : ∀ w ∈ zXs, w.before #[Value.ref b] s = true) : ∀ w ∈ zTg, w.before #[Value.ref b] s = true := fun w hw => by
  rcases List.mem_append.mp (List.mem_filter.mp hw).1 with h | h
  · exact hx w h
  · exact hts w h
theorem zTn_of (hts : ∀ w ∈ lw_tbl, w.before #[Value.ref b] s = true) : ∀ w ∈ zTn, ∀ A', w.before A' s = true := fun w hw A' => by
  obtain ⟨h1, h2⟩ := List.mem_filter.mp hw
  exact zNw_warm h2 (State.WarmedH.refl _) (hts w h1)
theorem zby {E : zen} {a : zam} {ln : List Nat} {l : List Int32} (h : ((List.range ln.length).all fun j => decide (l.getD j 0 = nI (ln.getD j 0)) && decide (ln.getD j 0 < 4294967296)) = true) {j v : Nat} (hj : (ln.map zti)[j]? = some v) : zrel E a v (.int (l.getD j 0)) := by
  have hl : j < ln.length := by
    have := (List.getElem?_eq_some_iff.mp hj).1
    simpa using this
  have h1 := List.all_eq_true.mp h j (List.mem_range.mpr hl)
  simp only [Bool.and_eq_true, decide_eq_true_eq] at h1
  rw [List.getElem?_map, List.getElem?_eq_getElem hl] at hj
  have e : v = 16 * ln.getD j 0 := by
    have := (Option.some.inj hj).symm
    rw [this, List.getD_eq_getElem?_getD, List.getElem?_eq_getElem hl]
    exact Nat.mul_comm _ 16
  rw [e, h1.1]
  exact zn0' h1.2
theorem zXsel {s : State} {args : Array Value} (h1 : (Cond.selects "java/lang/StringBuilder" ⟨"java/lang/AbstractStringBuilder", "isLatin1", "()Z"⟩ ⟨"java/lang/AbstractStringBuilder", "isLatin1", "()Z"⟩).before args s = true) (h2 : (Cond.privateMethod ⟨"java/lang/AbstractStringBuilder", "ensureCapacityInternal", "(I)V"⟩).before args s = true) (h3 : (Cond.instanceMethod ⟨"java/lang/AbstractStringBuilder", "ensureCapacityInternal", "(I)V"⟩).before args s = true) : ∀ w ∈ zXs, w.before args s = true := by
  obtain ⟨mk, methM, hnamed, hmethM, -, -⟩ := Cond.instanceMethod_spec h3
  have hfound := State.methodFound?_of_named hnamed ⟨by decide, by decide⟩
  have hsel : ∀ c, selectMethod {} s.vm c mk = .method mk := fun c => selectMethod_private hmethM (Cond.privateMethod_at h2 mk methM hnamed hmethM)
  have hcls := findClass_of_methodNamed hnamed
  have key : ∃ c, s.vm.findClass "java/lang/StringBuilder" = some c ∧ (s.vm.classes[mk.cls]?).any (!·.isInterface) = true := by
    simp only [Cond.before, Cond.holds, Cond.value] at h1
    cases hc : s.vm.findClass "java/lang/StringBuilder" with
    | none => simp [hc] at h1
    | some c =>
      cases hr : s.methodFound? "java/lang/AbstractStringBuilder" "isLatin1" "()Z" with
      | none => simp [hc, hr] at h1
      | some r =>
        cases hm : s.methodNamed? ⟨"java/lang/AbstractStringBuilder", "isLatin1", "()Z"⟩ with
        | none => simp [hc, hr, hm] at h1
        | some m0 =>
          have e0 := findClass_of_methodNamed hm
          have e1 : mk.cls = m0.cls := Option.some.inj (hcls.symm.trans e0)
          rw [e1]
          simp only [hc, hr, hm] at h1
          cases hq : selectMethod {} s.vm c r with
          | method m' => simp [hq] at h1; exact ⟨c, rfl, by simpa using h1.2⟩
          | _ => simp [hq] at h1
  obtain ⟨c, hc, hni⟩ := key
  intro w hw
  simp only [zXs, List.mem_cons, List.not_mem_nil, or_false] at hw
  subst hw
  simp only [Cond.before, Cond.holds, Cond.value, hc, hfound, hnamed, hsel]
  simp
  simpa using hni
end Start
section Start2
def R_law : String := "ResidueworksLaw"
def lw_At (p : Program) (s : State) (m : MethodId) (meth : Method) (c : Code) (b L : Nat) (xs : Nat → Int32) : Prop :=
  p.tables.exec = Jvm.exec ∧ c.code = code ∧ meth.sig.returnType = ret ∧ c.maxLocals = 10 ∧ s.vm.findClass R_law = some m.cls ∧ (∀ w ∈ lw_tbl, w.before #[Value.ref b] s = true) ∧ va_X b L xs s s.heap ∧ b < s.heap.size ∧ meth.locks = false ∧ (Jvm.Cond.and given_1 narrow_1).before #[Value.ref b] s = true
theorem zb_1 {w : Cond} {i : Nat} (h0 : tables_1_1[i]? = some w) : w ∈ lw_tbl := by
  have h := List.mem_of_getElem? h0
  exact ztb (List.mem_append_left _ h)
theorem zb_2 {w : Cond} {i : Nat} (h0 : tables_1_2[i]? = some w) : w ∈ lw_tbl := by
  have h := List.mem_of_getElem? h0
  exact ztb (List.mem_append_right _ (List.mem_append_left _ h))
theorem zb_3 {w : Cond} {i : Nat} (h0 : tables_1_3[i]? = some w) : w ∈ lw_tbl := by
  have h := List.mem_of_getElem? h0
  exact ztb (List.mem_append_right _ (List.mem_append_right _ (List.mem_append_left _ h)))
theorem zb_4 {w : Cond} {i : Nat} (h0 : tables_1_4[i]? = some w) : w ∈ lw_tbl := by
  have h := List.mem_of_getElem? h0
  exact ztb (List.mem_append_right _ (List.mem_append_right _ (List.mem_append_right _ (List.mem_append_left _ h))))
theorem zb_5 {w : Cond} {i : Nat} (h0 : tables_1_5[i]? = some w) : w ∈ lw_tbl := by
  have h := List.mem_of_getElem? h0
  exact ztb (List.mem_append_right _ (List.mem_append_right _ (List.mem_append_right _ (List.mem_append_right _ (List.mem_append_left _ h)))))
theorem zb_6 {w : Cond} {i : Nat} (h0 : tables_1_6[i]? = some w) : w ∈ lw_tbl := by
  have h := List.mem_of_getElem? h0
  exact ztb (List.mem_append_right _ (List.mem_append_right _ (List.mem_append_right _ (List.mem_append_right _ (List.mem_append_right _ (List.mem_append_left _ h))))))
theorem zb_7 {w : Cond} {i : Nat} (h0 : tables_1_7[i]? = some w) : w ∈ lw_tbl := by
  have h := List.mem_of_getElem? h0
  exact ztb (List.mem_append_right _ (List.mem_append_right _ (List.mem_append_right _ (List.mem_append_right _ (List.mem_append_right _ (List.mem_append_right _ (List.mem_append_left _ h)))))))
theorem zb_8 {w : Cond} {i : Nat} (h0 : tables_1_8[i]? = some w) : w ∈ lw_tbl := by
  have h := List.mem_of_getElem? h0
  exact ztb (List.mem_append_right _ (List.mem_append_right _ (List.mem_append_right _ (List.mem_append_right _ (List.mem_append_right _ (List.mem_append_right _ (List.mem_append_right _ (List.mem_append_left _ h))))))))
theorem zb_9 {w : Cond} {i : Nat} (h0 : tables_1_9[i]? = some w) : w ∈ lw_tbl := by
  have h := List.mem_of_getElem? h0
  exact ztb (List.mem_append_right _ (List.mem_append_right _ (List.mem_append_right _ (List.mem_append_right _ (List.mem_append_right _ (List.mem_append_right _ (List.mem_append_right _ (List.mem_append_right _ (List.mem_append_left _ h)))))))))
theorem zb_10 {w : Cond} {i : Nat} (h0 : tables_1_10[i]? = some w) : w ∈ lw_tbl := by
  have h := List.mem_of_getElem? h0
  exact ztb (List.mem_append_right _ (List.mem_append_right _ (List.mem_append_right _ (List.mem_append_right _ (List.mem_append_right _ (List.mem_append_right _ (List.mem_append_right _ (List.mem_append_right _ (List.mem_append_right _ (List.mem_append_left _ h))))))))))
theorem zb_11 {w : Cond} {i : Nat} (h0 : tables_1_11[i]? = some w) : w ∈ lw_tbl := by
  have h := List.mem_of_getElem? h0
  exact ztb (List.mem_append_right _ (List.mem_append_right _ (List.mem_append_right _ (List.mem_append_right _ (List.mem_append_right _ (List.mem_append_right _ (List.mem_append_right _ (List.mem_append_right _ (List.mem_append_right _ (List.mem_append_right _ (h)))))))))))
variable {s : State} {b : Nat}
theorem zknown (hg : ∀ w ∈ zTg, w.before #[Value.ref b] s = true) : ∀ (k : Nat) (q : vw_C), zcls2[k]? = some q → ∃ (cC : ClassId) (iS : Nat → Nat), u_Kn s q.1 q.2.1 q.2.2 cC iS
  | 0, _, hq => by cases hq; exact u_known hg zu_X0 (hg _ (zt_1 (w := (Jvm.Cond.instantiable "Residueworks$Conditions" (12 : Nat))) (i := 226) rfl rfl))
  | 1, _, hq => by cases hq; exact u_known hg zu_X1 (hg _ (zt_1 (w := (Jvm.Cond.instantiable "Residueworks$Division" (3 : Nat))) (i := 116) rfl rfl))
  | 2, _, hq => by cases hq; exact u_known hg zu_X2 (hg _ (zt_1 (w := (Jvm.Cond.instantiable "Residueworks$Residues" (11 : Nat))) (i := 142) rfl rfl))
  | 3, _, hq => by cases hq; exact u_known hg zu_X3 (hg _ (zt_1 (w := (Jvm.Cond.instantiable "Residueworks$Roots" (6 : Nat))) (i := 195) rfl rfl))
  | 4, _, hq => by cases hq; exact u_known hg zu_X4 (hg _ (zt_1 (w := (Jvm.Cond.instantiable "Residueworks$Row" (3 : Nat))) (i := 96) rfl rfl))
  | 5, _, hq => by cases hq; exact u_known hg zu_X6 (hg _ (zt_1 (w := (Jvm.Cond.instantiable "Residueworks$Text" (3 : Nat))) (i := 53) rfl rfl))
  | 6, _, hq => by cases hq; exact u_known hg zu_X7 (hg _ (zt_2 (w := (Jvm.Cond.instantiable "Residueworks$Theorem" (15 : Nat))) (i := 41) rfl rfl))
  | 7, _, hq => by cases hq; exact u_known hg zu_X8 (hg _ (zt_1 (w := (Jvm.Cond.instantiable "Residueworks$Whole" (3 : Nat))) (i := 59) rfl rfl))
  | 8, _, hq => by cases hq; exact u_known hg zu_X9 (hg _ (zt_1 (w := (Jvm.Cond.instantiable "Residueworks" (10 : Nat))) (i := 43) rfl rfl))
  | 9, _, hq => by cases hq; exact u_known hg zu_X10 (hg _ (zt_7 (w := (Jvm.Cond.instantiable "ResidueworksModel$Whole" (2 : Nat))) (i := 29) rfl rfl))
  | 10, _, hq => by cases hq; exact u_known hg zu_X11 (hg _ (zt_6 (w := (Jvm.Cond.instantiable "ResidueworksModel" (6 : Nat))) (i := 194) rfl rfl))
  | 11, _, hq => by cases hq; exact u_known hg zu_J4 (hg _ (zt_6 (w := (Jvm.Cond.instantiable "java/lang/StringBuilder" (4 : Nat))) (i := 202) rfl rfl))
  | 12, _, hq => by cases hq; exact u_known hg zu_Jx4a65c (hg _ (zt_6 (w := (Jvm.Cond.instantiable "java/util/ArrayList" (3 : Nat))) (i := 234) rfl rfl))
  | 13, _, hq => by cases hq; exact u_known hg zu_Jx35411 (hg _ (zt_10 (w := (Jvm.Cond.instantiable "java/util/ArrayList$Itr" (4 : Nat))) (i := 223) rfl rfl))
  | 14, _, hq => by cases hq; exact u_known hg zu_J0 (hg _ (zt_3 (w := (Jvm.Cond.instantiable "java/lang/String" (4 : Nat))) (i := 60) rfl rfl))
  | 15, _, hq => by cases hq; exact u_known hg zu_J6 (hg _ (zt_9 (w := (Jvm.Cond.instantiable "java/lang/Integer" (1 : Nat))) (i := 221) rfl rfl))
  | k + 16, _, hq => by
    have := (List.getElem?_eq_some_iff.mp hq).1
    have : k + 16 < 16 := this
    omega
def zfwq (q : String × MethodName × MethodName) : Bool := decide (Cond.declares q.2.1 ∈ lw_tbl) && (decide (Cond.interfaceMethod q.2.1.cls q.2.1.cls q.2.1.name q.2.1.desc ∈ lw_tbl) && (decide (Cond.publicMethod q.2.2 ∈ lw_tbl) && (decide (Cond.unhidden q.1 q.2.1.name q.2.1.desc ∈ lw_tbl) && decide (Cond.castable q.1 q.2.1.cls ∈ lw_tbl))))
theorem zfw_ok : zfwl.all zfwq = true := by decide +kernel
theorem zfw_of (hts : ∀ w ∈ lw_tbl, w.before #[Value.ref b] s = true) : ∀ q ∈ zfwl, va_Fw q.1 q.2.1 q.2.2 s := fun q hq => by
  have h := List.all_eq_true.mp zfw_ok q hq
  unfold zfwq at h
  simp only [Bool.and_eq_true, decide_eq_true_eq] at h
  obtain ⟨h1, h2, h3, h4, h5⟩ := h
  exact va_Fw.of (hts _ h1) (hts _ h2) (hts _ h3) (hts _ h4) (hts _ h5)
theorem znc_ok : (znc.all fun q => decide (Cond.not (.castable q.1 q.2) ∈ zNl)) = true := by decide +kernel
theorem znc_of2 (hs : zHs b s) : ∀ q ∈ znc, va_Nc q.1 q.2 s := fun q hq => va_Nc.of (hs _ (of_decide_eq_true (List.all_eq_true.mp znc_ok q hq)))
theorem zxt_ok : (zxtl.all fun q => decide (Cond.stringRef "Residueworks" q.1 q.2 ∈ lw_tbl) && decide (Cond.exactly (.string "Residueworks" q.1) "java/lang/String" ∈ zNl)) = true := by decide +kernel
theorem zxt_of (hts : ∀ w ∈ lw_tbl, w.before #[Value.ref b] s = true) (hs : zHs b s) : ∀ q ∈ zxtl, ∃ a, vk_R "Residueworks" q.1 q.2 a s := fun q hq => by
  have h := List.all_eq_true.mp zxt_ok q hq
  simp only [Bool.and_eq_true, decide_eq_true_eq] at h
  obtain ⟨a, c, cell, k, e1, -⟩ := Cond.exactly_spec (args := #[Value.ref b]) (first := s) (o := none) (s := s) (idx := []) (hs _ h.2)
  exact ⟨a, vk_R.of (hts _ h.1) e1⟩
theorem ztx_ok : (ztxl.all fun q => decide (Cond.stringRef "ResidueworksModel" q.1 q.2.1 ∈ lw_tbl)) = true := by decide +kernel
/-- the statics, by what they hold -/
theorem zstats (hts : ∀ w ∈ lw_tbl, w.before #[Value.ref b] s = true) (hs : zHs b s) {A : Nat → Prop} (hA : ∀ a : Nat, a < s.heap.size → ¬ A a) :
    ∃ (aN aE aC : Nat) (ad : Nat → Nat) (v10 : Value), (v10 = .null ∨ ∃ u, v10 = .ref u) ∧
      (Term.static "ResidueworksModel" "NOTHING" "[I").eval #[Value.ref b] s none [] s = some (.ref aN) ∧ va_Z "ResidueworksModel" "NOTHING" "[I" (.ref aN) A s s.heap ∧ va_T .int aN 0 (fun _ => .null) A s s.heap ∧
      va_Z "java/util/ArrayList" "DEFAULTCAPACITY_EMPTY_ELEMENTDATA" "[Ljava/lang/Object;" (.ref aE) A s s.heap ∧ va_T (.object "java/lang/Object") aE 0 (fun _ => .null) A s s.heap ∧
      va_Z "java/lang/Integer$IntegerCache" "cache" "[Ljava/lang/Integer;" (.ref aC) A s s.heap ∧ va_T (.object "java/lang/Integer") aC 256 (fun j => .ref (ad j)) A s s.heap ∧ vb_C ad A s s.heap ∧
      va_Z "java/lang/String" "COMPACT_STRINGS" "Z" (.int 1) A s s.heap ∧ va_Z "java/lang/Integer$IntegerCache" "high" "I" (.int 127) A s s.heap ∧
      va_Z "jdk/internal/util/Preconditions" "SIOOBE_FORMATTER" "Ljava/util/function/BiFunction;" v10 A s s.heap := by
  obtain ⟨aN, n1, n2⟩ := va_Tof (args := #[Value.ref b]) (s := s) (tm := (.static "ResidueworksModel" "NOTHING" "[I")) (ty := .int) (N := 0) (f := fun _ => .null) (A := A) (by decide) (hs _ (by decide +kernel)) (va_eqt (hs (.eq (.length (.static "ResidueworksModel" "NOTHING" "[I")) (.int 0)) (by decide +kernel))) (fun j hj => absurd hj (Nat.not_lt_zero j)) hA
  obtain ⟨aE, e1, e2⟩ := va_Tof (args := #[Value.ref b]) (s := s) (tm := (.static "java/util/ArrayList" "DEFAULTCAPACITY_EMPTY_ELEMENTDATA" "[Ljava/lang/Object;")) (ty := .object "java/lang/Object") (N := 0) (f := fun _ => .null) (A := A) (by decide) (hs _ (by decide +kernel)) (va_eqt (hs (.eq (.length (.static "java/util/ArrayList" "DEFAULTCAPACITY_EMPTY_ELEMENTDATA" "[Ljava/lang/Object;")) (.int 0)) (by decide +kernel))) (fun j hj => absurd hj (Nat.not_lt_zero j)) hA
  have hlen := va_eqt (hs (.eq (.length (.static "java/lang/Integer$IntegerCache" "cache" "[Ljava/lang/Integer;")) (.int (Int32.ofNat 256))) (by decide +kernel))
  obtain ⟨ad, c1, c2⟩ := vb_Cof (args := #[Value.ref b]) (s := s) (A := A) (st := (.static "java/lang/Integer$IntegerCache" "cache" "[Ljava/lang/Integer;")) rfl hlen (hs _ (by decide +kernel)) hA
  obtain ⟨aC, c3, c4⟩ := va_Tof (args := #[Value.ref b]) (s := s) (tm := (.static "java/lang/Integer$IntegerCache" "cache" "[Ljava/lang/Integer;")) (ty := .object "java/lang/Integer") (N := 256) (f := fun j => .ref (ad j)) (A := A) (by decide) (hs _ (by decide +kernel)) hlen c2 hA
  have h1 := va_eqt (hs (.eq (.static "java/lang/String" "COMPACT_STRINGS" "Z") (.int 1)) (by decide +kernel))
  have h2 := va_eqt (hs (.eq (.static "java/lang/Integer$IntegerCache" "high" "I") (.int 127)) (by decide +kernel))
  obtain ⟨v10, v1, v2⟩ := Cond.isRef_spec (args := #[Value.ref b]) (s := s) (hs (.isRef (.static "jdk/internal/util/Preconditions" "SIOOBE_FORMATTER" "Ljava/util/function/BiFunction;")) (by decide +kernel))
  refine ⟨aN, aE, aC, ad, v10, ?_, n1, va_Zof (hts _ (zb_7 (w := (Jvm.Cond.laysStatic "ResidueworksModel" "NOTHING" "[I")) (i := 126) rfl)) (hts _ (zb_1 (w := (Jvm.Cond.initialized "ResidueworksModel")) (i := 10) rfl)) n1 hA, n2, va_Zof (hts _ (zb_7 (w := (Jvm.Cond.laysStatic "java/util/ArrayList" "DEFAULTCAPACITY_EMPTY_ELEMENTDATA" "[Ljava/lang/Object;")) (i := 6) rfl)) (hts _ (zb_1 (w := (Jvm.Cond.initialized "java/util/ArrayList")) (i := 17) rfl)) e1 hA, e2, va_Zof (hts _ (zb_9 (w := (Jvm.Cond.laysStatic "java/lang/Integer$IntegerCache" "cache" "[Ljava/lang/Integer;")) (i := 219) rfl)) (hts _ (zb_1 (w := (Jvm.Cond.initialized "java/lang/Integer$IntegerCache")) (i := 37) rfl)) c3 hA, c4, c1, va_Zof (hts _ (zb_6 (w := (Jvm.Cond.laysStatic "java/lang/String" "COMPACT_STRINGS" "Z")) (i := 211) rfl)) (hts _ (zb_1 (w := (Jvm.Cond.initialized "java/lang/String")) (i := 13) rfl)) h1 hA, va_Zof (hts _ (zb_9 (w := (Jvm.Cond.laysStatic "java/lang/Integer$IntegerCache" "high" "I")) (i := 217) rfl)) (hts _ (zb_1 (w := (Jvm.Cond.initialized "java/lang/Integer$IntegerCache")) (i := 37) rfl)) h2 hA, va_Zof (hts _ (zb_7 (w := (Jvm.Cond.laysStatic "jdk/internal/util/Preconditions" "SIOOBE_FORMATTER" "Ljava/util/function/BiFunction;")) (i := 234) rfl)) (hts _ (zb_1 (w := (Jvm.Cond.initialized "jdk/internal/util/Preconditions")) (i := 31) rfl)) v1 hA⟩
  cases v10 with
  | null => exact Or.inl rfl
  | ref u => exact Or.inr ⟨u, rfl⟩
  | _ => cases v2
theorem zthr (hts : ∀ w ∈ lw_tbl, w.before #[Value.ref b] s = true) (hs : zHs b s) {A : Nat → Prop} (hA : ∀ a : Nat, a < s.heap.size → ¬ A a) : vx_Zq Bundle.tN "UNASSIGNED_STACK" Bundle.steD A s s.heap ∧ vx_Zq Bundle.tN "SUPPRESSED_SENTINEL" Bundle.listD A s s.heap :=
  ⟨vx_Zqof (args := #[Value.ref b]) (hts _ (zb_3 (w := (Jvm.Cond.laysStatic "java/lang/Throwable" "UNASSIGNED_STACK" "[Ljava/lang/StackTraceElement;")) (i := 4) rfl)) (hts _ (zb_1 (w := (Jvm.Cond.initialized "java/lang/Throwable")) (i := 21) rfl)) (hs (.isRef (.static "java/lang/Throwable" "UNASSIGNED_STACK" "[Ljava/lang/StackTraceElement;")) (by decide +kernel)) hA, vx_Zqof (args := #[Value.ref b]) (hts _ (zb_3 (w := (Jvm.Cond.laysStatic "java/lang/Throwable" "SUPPRESSED_SENTINEL" "Ljava/util/List;")) (i := 6) rfl)) (hts _ (zb_1 (w := (Jvm.Cond.initialized "java/lang/Throwable")) (i := 21) rfl)) (hs (.isRef (.static "java/lang/Throwable" "SUPPRESSED_SENTINEL" "Ljava/util/List;")) (by decide +kernel)) hA⟩
end Start2
