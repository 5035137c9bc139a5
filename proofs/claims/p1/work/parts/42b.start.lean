section Start3
variable {s : State} {b : Nat}
theorem zint0 {E : zen} {a : zam} {v : Nat} {i : Int32} (h : v % 16 = 0) (h2 : v / 16 < 4294967296) (h3 : i = Int32.ofNat (v / 16)) : zrel E a v (.int i) := (zr0 h _).mpr ⟨h2, congrArg Value.int h3⟩
def zvv (k : Nat) : Nat := Nat.mod (Nat.add (zti k) 68719474688) 68719476736
theorem zvbc : ∀ k, k < 256 → zvv k % 16 = 0 ∧ zvv k / 16 < 4294967296 ∧ vb_c k = Int32.ofNat (zvv k / 16) := by decide +kernel
/-- the addresses of the cells that were there -/
def zAd (b aN aE aC : Nat) (sa ta ad : Nat → Nat) : Nat → Nat := fun k => if k = 0 then b else if k = 1 then aN else if k = 2 then aE else if k = 3 then aC else if k < 14 then (if k % 2 = 0 then sa ((k - 4) / 2) else ta ((k - 5) / 2)) else ad (k - 14)
set_option maxHeartbeats 4000000 in
/-- what holds at the entry -/
theorem zstart {p : Program} {m : MethodId} {meth : Method} {c : Code} {L : Nat} {xs : Nat → Int32} (l : Launch) (hflags : l.flags = flags0) (C0 : lw_At p s m meth c b L xs) (hL : L ≤ 5) :
    ∃ (D : va_G) (dA : Nat → ClassId) (adr : Nat → Nat) (v10 : Value), (v10 = .null ∨ ∃ u, v10 = .ref u) ∧ adr 0 = b ∧ (Term.static "ResidueworksModel" "NOTHING" "[I").eval #[Value.ref b] s none [] s = some (.ref (adr 1)) ∧ s.vm.findClass "[I" = some (dA 20) ∧ (∃ kA : Class, s.vm.classes[dA 27]? = some kA ∧ kA.kind = .array (dA 20) (.array .int)) ∧ (∀ w ∈ zTg, w.before #[Value.ref b] s = true) ∧ (∀ w ∈ zTn, w.before #[Value.ref b] s = true) ∧
      ∀ (nm : Nat → Int32) (ctx : zctx), ctx.2.length = L → (∀ (j v : Nat), ctx.2[j]? = some v → ∀ a, zrel (nm, adr, v10, ctx.1) a v (.int (xs j))) → zPre (l, (nm, adr, v10, ctx.1), D, dA, s) ctx := by
  obtain ⟨-, -, -, -, -, hts, hX, -, -, hgv⟩ := C0
  have hs := zHs_of hgv
  have hA : ∀ a : Nat, a < s.heap.size → ¬ (fun q : Nat => s.heap.size ≤ q) a := fun a h z => by
    have z : s.heap.size ≤ a := z
    omega
  have hg := zTg_of hts (zXsel (hts _ (zb_8 (w := (Jvm.Cond.selects "java/lang/StringBuilder" ({ cls := "java/lang/AbstractStringBuilder", name := "isLatin1", desc := "()Z" } : Jvm.MethodName) ({ cls := "java/lang/AbstractStringBuilder", name := "isLatin1", desc := "()Z" } : Jvm.MethodName))) (i := 198) rfl)) (hts _ (zb_8 (w := (Jvm.Cond.privateMethod ({ cls := "java/lang/AbstractStringBuilder", name := "ensureCapacityInternal", desc := "(I)V" } : Jvm.MethodName))) (i := 167) rfl)) (hts _ (zb_8 (w := (Jvm.Cond.instanceMethod ({ cls := "java/lang/AbstractStringBuilder", name := "ensureCapacityInternal", desc := "(I)V" } : Jvm.MethodName))) (i := 168) rfl)))
  have hn := zTn_of hts
  obtain ⟨dA, ty1, kA, ty2, ty3⟩ := zTyp hg (fun w hw => hn w hw _) (zt_1 (w := (Jvm.Cond.arrayClass Jvm.ClassFile.FieldType.int)) (i := 83) rfl rfl) (zt_11 (w := (Jvm.Cond.arrayClass Jvm.ClassFile.FieldType.long)) (i := 40) rfl rfl) (zt_1 (w := (Jvm.Cond.arrayClass Jvm.ClassFile.FieldType.byte)) (i := 114) rfl rfl) (zt_1 (w := (Jvm.Cond.arrayClass Jvm.ClassFile.FieldType.char)) (i := 82) rfl rfl) (zt_11 (w := (Jvm.Cond.arrayClass Jvm.ClassFile.FieldType.double)) (i := 41) rfl rfl) (zn_1 (w := (Jvm.Cond.arrayOver (Jvm.ClassFile.FieldType.object "Residueworks$Whole"))) (i := 51) rfl rfl) (zn_10 (w := (Jvm.Cond.arrayOver (Jvm.ClassFile.FieldType.object "java/lang/Object"))) (i := 49) rfl rfl) (zn_8 (w := (Jvm.Cond.arrayOver (Jvm.ClassFile.FieldType.array Jvm.ClassFile.FieldType.int))) (i := 73) rfl rfl) (zn_6 (w := (Jvm.Cond.arrayOver (Jvm.ClassFile.FieldType.object "ResidueworksModel$Whole"))) (i := 200) rfl rfl)
  obtain ⟨cc, hcc⟩ : ∃ cc : Nat → ClassId × (Nat → Nat), ∀ (k : Nat) (q : vw_C), zcls2[k]? = some q → u_Kn s q.1 q.2.1 q.2.2 (cc k).1 (cc k).2 := by
    have h : ∀ k : Nat, ∃ x : ClassId × (Nat → Nat), ∀ q : vw_C, zcls2[k]? = some q → u_Kn s q.1 q.2.1 q.2.2 x.1 x.2 := fun k => by
      cases hk : zcls2[k]? with
      | none => exact ⟨(0, fun _ => 0), fun q hq => by cases hq⟩
      | some r =>
        obtain ⟨cC, iS, e⟩ := zknown hg k r hk
        exact ⟨(cC, iS), fun q hq => by cases hq; exact e⟩
    obtain ⟨f, hf⟩ := Classical.axiomOfChoice h
    exact ⟨f, hf⟩
  obtain ⟨aN, aE, aC, ad, v10, v1, n1, s1, n2, s2, e2, s3, c4, c1, s4, s5, s6⟩ := zstats hts hs hA
  obtain ⟨x1, y1, t1a, t1b, t1c, t1d, t1e⟩ := zTx (A := fun q : Nat => s.heap.size ≤ q) hs (by decide) zTxw_1 hA
  obtain ⟨x2, y2, t2a, t2b, t2c, t2d, t2e⟩ := zTx (A := fun q : Nat => s.heap.size ≤ q) hs (by decide) zTxw_2 hA
  obtain ⟨x3, y3, t3a, t3b, t3c, t3d, t3e⟩ := zTx (A := fun q : Nat => s.heap.size ≤ q) hs (by decide) zTxw_3 hA
  obtain ⟨x4, y4, t4a, t4b, t4c, t4d, t4e⟩ := zTx (A := fun q : Nat => s.heap.size ≤ q) hs (by decide) zTxw_4 hA
  obtain ⟨x5, y5, t5a, t5b, t5c, t5d, t5e⟩ := zTx (A := fun q : Nat => s.heap.size ≤ q) hs (by decide) zTxw_5 hA
  have h20 : s.vm.findClass "[I" = some (dA 20) := (ty1 0 (dA 20, .int) rfl).2
  refine ⟨(fun k => (cc k).1, fun k => (cc k).2), dA, zAd b aN aE aC (fun i => match i with | 0 => x1 | 1 => x2 | 2 => x3 | 3 => x4 | _ => x5) (fun i => match i with | 0 => y1 | 1 => y2 | 2 => y3 | 3 => y4 | _ => y5) ad, v10, v1, rfl, n1, h20, ⟨kA, ty2, ty3⟩, hg, fun w hw => hn w hw _, fun nm ctx hlen hsc => ?_⟩
  generalize hadr : zAd b aN aE aC (fun i => match i with | 0 => x1 | 1 => x2 | 2 => x3 | 3 => x4 | _ => x5) (fun i => match i with | 0 => y1 | 1 => y2 | 2 => y3 | 3 => y4 | _ => y5) ad = adr at hsc ⊢
  have r6 : ∀ (k : Nat) (q : Nat) (a : zam), adr k = q → zrel (nm, adr, v10, ctx.1) a (16 * k + 6) (.ref q) := fun k q a h => (zr6 (by omega) _).mpr (by
    show Value.ref q = .ref (adr ((16 * k + 6) / 16))
    rw [show (16 * k + 6) / 16 = k by omega, h])
  have r0 : ∀ (n : Nat) (i : Int32) (a : zam), n < 4294967296 → i = nI n → zrel (nm, adr, v10, ctx.1) a (16 * n) (.int i) := fun n i a h e => by rw [e]; exact zn0' h
  refine ⟨⟨hcc, ty1⟩, ?_, ⟨xs, ?_, by omega, hsc⟩, fun s' hal => ?_, ?_⟩
  · -- the cells that were there
    intro k cl hk h1
    rcases Nat.lt_or_ge k 14 with h14 | h14
    · have : k = 1 ∨ k = 2 ∨ k = 3 ∨ k = 4 ∨ k = 5 ∨ k = 6 ∨ k = 7 ∨ k = 8 ∨ k = 9 ∨ k = 10 ∨ k = 11 ∨ k = 12 ∨ k = 13 := by omega
      rcases this with rfl | rfl | rfl | rfl | rfl | rfl | rfl | rfl | rfl | rfl | rfl | rfl | rfl
      · cases hk
        subst hadr
        exact ⟨by decide, Or.inr ⟨Or.inl rfl, _, n2, fun j v hj => by cases hj⟩⟩
      · cases hk
        subst hadr
        exact ⟨by decide, Or.inr ⟨Or.inr (Or.inr (Or.inl rfl)), _, e2, fun j v hj => by cases hj⟩⟩
      · cases hk
        refine ⟨by show 256 ≤ 65535; decide, Or.inr ⟨Or.inr (Or.inr (Or.inr rfl)), fun j => .ref (ad j), by subst hadr; exact c4, fun j v hj a => ?_⟩⟩
        have hj : ((List.range 256).map fun k => Nat.add (zti (Nat.add 14 k)) 6)[j]? = some v := hj
        have hl : j < 256 := by
          have := (List.getElem?_eq_some_iff.mp hj).1
          simpa using this
        rw [List.getElem?_map, List.getElem?_range hl] at hj
        have e : v = 16 * (14 + j) + 6 := by
          have := (Option.some.inj hj).symm
          rw [this]
          exact congrArg (· + 6) (Nat.mul_comm _ 16)
        rw [e]
        refine r6 _ _ a ?_
        subst hadr
        unfold zAd
        rw [if_neg (by omega), if_neg (by omega), if_neg (by omega), if_neg (by omega), if_neg (by omega), show 14 + j - 14 = j by omega]
      · cases hk
        refine ⟨by show 0 ≤ 65535; decide, Or.inl ⟨by show 14 ≤ 14; decide, by show 14 < 16; decide, _, rfl, by subst hadr; exact t1b, fun i v hi => ?_⟩⟩
        rcases i with _ | _ | i
        · cases hi
          exact ⟨.ref y1, fun a => r6 5 _ a (by subst hadr; rfl), by subst hadr; exact t1d⟩
        · cases hi
          exact ⟨.int 0, fun a => r0 0 _ a (by decide) rfl, by subst hadr; exact t1c⟩
        · cases hi
      · cases hk
        refine ⟨by show 4 ≤ 65535; decide, Or.inr ⟨Or.inr (Or.inl rfl), fun j => .int (([115, 108, 99, 116] : List Int32).getD j 0), by subst hadr; exact t1e, fun j v hj a => ?_⟩⟩
        exact zby (ln := [115, 108, 99, 116]) (l := [115, 108, 99, 116]) (by decide +kernel) hj
      · cases hk
        refine ⟨by show 0 ≤ 65535; decide, Or.inl ⟨by show 14 ≤ 14; decide, by show 14 < 16; decide, _, rfl, by subst hadr; exact t2b, fun i v hi => ?_⟩⟩
        rcases i with _ | _ | i
        · cases hi
          exact ⟨.ref y2, fun a => r6 7 _ a (by subst hadr; rfl), by subst hadr; exact t2d⟩
        · cases hi
          exact ⟨.int 0, fun a => r0 0 _ a (by decide) rfl, by subst hadr; exact t2c⟩
        · cases hi
      · cases hk
        refine ⟨by show 14 ≤ 65535; decide, Or.inr ⟨Or.inr (Or.inl rfl), fun j => .int (([43, 45, 42, 47, 37, 109, 103, 99, 38, 124, 94, 110, 60, 62] : List Int32).getD j 0), by subst hadr; exact t2e, fun j v hj a => ?_⟩⟩
        exact zby (ln := [43, 45, 42, 47, 37, 109, 103, 99, 38, 124, 94, 110, 60, 62]) (l := [43, 45, 42, 47, 37, 109, 103, 99, 38, 124, 94, 110, 60, 62]) (by decide +kernel) hj
      · cases hk
        refine ⟨by show 0 ≤ 65535; decide, Or.inl ⟨by show 14 ≤ 14; decide, by show 14 < 16; decide, _, rfl, by subst hadr; exact t3b, fun i v hi => ?_⟩⟩
        rcases i with _ | _ | i
        · cases hi
          exact ⟨.ref y3, fun a => r6 9 _ a (by subst hadr; rfl), by subst hadr; exact t3d⟩
        · cases hi
          exact ⟨.int 0, fun a => r0 0 _ a (by decide) rfl, by subst hadr; exact t3c⟩
        · cases hi
      · cases hk
        refine ⟨by show 4 ≤ 65535; decide, Or.inr ⟨Or.inr (Or.inl rfl), fun j => .int (([45, 97, 126, 113] : List Int32).getD j 0), by subst hadr; exact t3e, fun j v hj a => ?_⟩⟩
        exact zby (ln := [45, 97, 126, 113]) (l := [45, 97, 126, 113]) (by decide +kernel) hj
      · cases hk
        refine ⟨by show 0 ≤ 65535; decide, Or.inl ⟨by show 14 ≤ 14; decide, by show 14 < 16; decide, _, rfl, by subst hadr; exact t4b, fun i v hi => ?_⟩⟩
        rcases i with _ | _ | i
        · cases hi
          exact ⟨.ref y4, fun a => r6 11 _ a (by subst hadr; rfl), by subst hadr; exact t4d⟩
        · cases hi
          exact ⟨.int 0, fun a => r0 0 _ a (by decide) rfl, by subst hadr; exact t4c⟩
        · cases hi
      · cases hk
        refine ⟨by show 3 ≤ 65535; decide, Or.inr ⟨Or.inr (Or.inl rfl), fun j => .int (([49, 48, 102] : List Int32).getD j 0), by subst hadr; exact t4e, fun j v hj a => ?_⟩⟩
        exact zby (ln := [49, 48, 102]) (l := [49, 48, 102]) (by decide +kernel) hj
      · cases hk
        refine ⟨by show 0 ≤ 65535; decide, Or.inl ⟨by show 14 ≤ 14; decide, by show 14 < 16; decide, _, rfl, by subst hadr; exact t5b, fun i v hi => ?_⟩⟩
        rcases i with _ | _ | i
        · cases hi
          exact ⟨.ref y5, fun a => r6 13 _ a (by subst hadr; rfl), by subst hadr; exact t5d⟩
        · cases hi
          exact ⟨.int 0, fun a => r0 0 _ a (by decide) rfl, by subst hadr; exact t5c⟩
        · cases hi
      · cases hk
        refine ⟨by show 36 ≤ 65535; decide, Or.inr ⟨Or.inr (Or.inl rfl), fun j => .int (([48, 49, 50, 51, 52, 53, 54, 55, 56, 57, 97, 98, 99, 100, 101, 102, 103, 104, 105, 106, 107, 108, 109, 110, 111, 112, 113, 114, 115, 116, 117, 118, 119, 120, 121, 122] : List Int32).getD j 0), by subst hadr; exact t5e, fun j v hj a => ?_⟩⟩
        exact zby (ln := [48, 49, 50, 51, 52, 53, 54, 55, 56, 57, 97, 98, 99, 100, 101, 102, 103, 104, 105, 106, 107, 108, 109, 110, 111, 112, 113, 114, 115, 116, 117, 118, 119, 120, 121, 122]) (l := [48, 49, 50, 51, 52, 53, 54, 55, 56, 57, 97, 98, 99, 100, 101, 102, 103, 104, 105, 106, 107, 108, 109, 110, 111, 112, 113, 114, 115, 116, 117, 118, 119, 120, 121, 122]) (by decide +kernel) hj
    · -- the Integers
      obtain ⟨j, rfl⟩ : ∃ j, k = 14 + j := ⟨k - 14, by omega⟩
      have hl : zext.length = 270 := by decide +kernel
      have hkl := (List.getElem?_eq_some_iff.mp hk).1
      have hj : j < 256 := by omega
      have hcl : cl = (15, 0, [zvv j]) := by
        have e : zext[14 + j]? = some (15, 0, [zvv j]) := by
          unfold zext
          rw [List.getElem?_append_right (by show 14 ≤ 14 + j; omega)]
          show ((List.range 256).map _)[14 + j - 14]? = _
          rw [show 14 + j - 14 = j by omega, List.getElem?_map, List.getElem?_range hj]
          rfl
        rw [e] at hk
        exact (Option.some.inj hk).symm
      subst hcl
      have haj : adr (14 + j) = ad j := by
        subst hadr
        unfold zAd
        rw [if_neg (by omega), if_neg (by omega), if_neg (by omega), if_neg (by omega), if_neg (by omega), show 14 + j - 14 = j by omega]
      show zXf _ (adr (14 + j)) _
      rw [haj]
      refine ⟨by show 0 ≤ 65535; decide, Or.inl ⟨by show 14 ≤ 15; decide, by show 15 < 16; decide, _, rfl, c1.1 j hj, fun i v hi => ?_⟩⟩
      cases i with
      | zero =>
        have hv : zvv j = v := Option.some.inj hi
        obtain ⟨z1, z2, z3⟩ := zvbc j hj
        rw [hv] at z1 z2 z3
        exact ⟨.int (vb_c j), fun a => zint0 z1 z2 z3, c1.2 j hj⟩
      | succ i => cases hi
  · show va_X (adr 0) ctx.2.length xs s s.heap
    rw [hlen]
    subst hadr
    exact hX
  · obtain ⟨k', hk', he⟩ := hal.2.2 _ _ ty2
    exact ⟨k', hk', by rw [he]; exact ty3⟩
  · refine ⟨fun q hq => ?_, fun q hq => ?_, zxt_of hts hs, znc_of2 hs, hn, zfw_of hts, (zthr hts hs hA).1, (zthr hts hs hA).2, ?_⟩
    · simp only [zstl, List.mem_cons, List.not_mem_nil, or_false] at hq
      rcases hq with rfl | rfl | rfl | rfl | rfl | rfl
      · exact ⟨_, s1, fun a => r6 1 _ a (by subst hadr; rfl)⟩
      · exact ⟨_, s2, fun a => r6 2 _ a (by subst hadr; rfl)⟩
      · exact ⟨_, s3, fun a => r6 3 _ a (by subst hadr; rfl)⟩
      · exact ⟨_, s4, fun a => r0 1 _ a (by decide) rfl⟩
      · exact ⟨_, s5, fun a => r0 127 _ a (by decide) rfl⟩
      · exact ⟨_, s6, fun a => (zr10 (v := 10) rfl _).mpr rfl⟩
    · have hw := List.all_eq_true.mp ztx_ok q hq
      have hw := of_decide_eq_true hw
      simp only [ztxl, List.mem_cons, List.not_mem_nil, or_false] at hq
      rcases hq with rfl | rfl | rfl | rfl | rfl
      · exact ⟨x1, vk_R.of (hts _ hw) t1a, fun a => r6 4 _ a (by subst hadr; rfl)⟩
      · exact ⟨x2, vk_R.of (hts _ hw) t2a, fun a => r6 6 _ a (by subst hadr; rfl)⟩
      · exact ⟨x3, vk_R.of (hts _ hw) t3a, fun a => r6 8 _ a (by subst hadr; rfl)⟩
      · exact ⟨x4, vk_R.of (hts _ hw) t4a, fun a => r6 10 _ a (by subst hadr; rfl)⟩
      · exact ⟨x5, vk_R.of (hts _ hw) t5a, fun a => r6 12 _ a (by subst hadr; rfl)⟩
    · show l.stackTraces = false
      unfold Launch.stackTraces
      rw [hflags]
      decide
end Start3
