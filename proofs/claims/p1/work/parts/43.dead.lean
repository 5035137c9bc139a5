section Dead
/-- what the weird start has -/
def zPd (b : Nat) : Array Value → State → Prop := fun args s => args = #[Value.ref b] ∧ (∃ xs : Nat → Int32, va_X b 5 xs s s.heap ∧ xs 0 = 18 ∧ xs 1 = 0 ∧ xs 2 = 10 ∧ xs 3 = 0 ∧ xs 4 = 0) ∧ b < s.heap.size ∧ (Jvm.Cond.and given_1 narrow_1).before args s = true ∧
  ∃ (aN : Nat) (cell : Cell) (kv : Class) (cI : ClassId), (Term.static "ResidueworksModel" "NOTHING" "[I").eval #[Value.ref b] s none [] s = some (.ref aN) ∧ s.heap[aN]? = some cell ∧ (∀ q, cell.vm ≠ .statics q) ∧ s.vm.classes[cell.cls]? = some kv ∧ s.vm.findClass "[I" = some cI ∧ s.vm.assignable cell.cls cI = false
/-- THE LAW DIES THERE -/
theorem zlaw_dies (l : Launch) (hflags : l.flags = flags0) (b : Nat) : zDie l x (Cond.code x code maxLocals ret :: tables_1) room_1 (zPd b) := by
  refine zdie_entry (cc := code) (maxL := maxLocals) (ret := ret) (by decide) rfl fun p e s m args below meth c s₁ B hml ht hP => ?_
  obtain ⟨rfl, ⟨xs, hX, x0, x1, x2, x3, x4⟩, hbl, hgv, aN, cell, kv, cI, w1, w2, w3, w4, w5, w6⟩ := hP
  have hown : s.vm.findClass R_law = some m.cls := findClass_of_methodNamed B.named
  have hts0 : ∀ c ∈ (Cond.code x code maxLocals ret :: tables_1), c.before #[Value.ref b] s = true := atoms_spec (ws := Cond.code x code maxLocals ret :: tables_1) B.pre
  have hts : ∀ w ∈ lw_tbl, w.before #[Value.ref b] s = true := k2_hts_sels lw_privs (fun w hw => hts0 w (List.mem_cons_of_mem _ hw)) lw_privs_ok
  have C0 : lw_At p s m meth c b 5 xs := ⟨B.exec, B.bytes, B.returns, hml, hown, hts, hX, hbl, B.notSynchronized, hgv⟩
  obtain ⟨D, dA, adr, v10, hv10, ha0, ha1, h20, -, hg, hn, hz⟩ := zstart l hflags C0 (by decide)
  have hPre := hz (fun _ => 0) (0, [288, 0, 160, 0, 0]) rfl (fun j v hj a => by
    have hzi : ∀ (n : Nat) (i q : Int32), n < 4294967296 → i = nI n → q = i → zrel ((fun _ => 0), adr, v10, 0) a (16 * n) (.int q) := fun n i q h e e2 => by rw [e2, e]; exact zn0' h
    rcases j with _ | _ | _ | _ | _ | j
    · cases hj; exact hzi 18 18 _ (by decide) rfl x0
    · cases hj; exact hzi 0 0 _ (by decide) rfl x1
    · cases hj; exact hzi 10 10 _ (by decide) rfl x2
    · cases hj; exact hzi 0 0 _ (by decide) rfl x3
    · cases hj; exact hzi 0 0 _ (by decide) rfl x4
    · cases hj)
  have eN : aN = adr 1 := Value.ref.inj (Option.some.inj (w1.symm.trans ha1))
  have eI : cI = dA 20 := Option.some.inj (w5.symm.trans h20)
  subst eN
  subst eI
  obtain ⟨o, ho, o8, oc, os⟩ := zdead
  have hE : zEok ((fun _ => (0 : Int32)), adr, v10, 0) := ⟨fun t h => absurd h (Nat.not_lt_zero t), fun t t' h => absurd h (Nat.not_lt_zero t), hv10⟩
  obtain ⟨-, hW⟩ := zrunR_ok (G := (l, ((fun _ => 0), adr, v10, 0), D, dA, s)) (ctx := (0, [288, 0, 160, 0, 0])) hE rfl ⟨hPre, cell, kv, w2, w3, w4, w6⟩ _ _ _ _ _ _ _ o ho
  have hF : zF 0 p s m #[Value.ref b] meth c := ⟨zmd_0, zh_0, B.exec, B.bytes, hml, hown, hg, B.notSynchronized, B.returns, (name_of_methodNamed B.named B.method).1, List.eq_nil_iff_forall_not_mem.mpr ht, hn⟩
  have e1 : (lg_sl [Value.ref b]).length ≤ 10 := by show 1 ≤ 10; decide
  have hml2 : c.maxLocals = 10 := hml
  show W p l e room_1 s m ([Value.ref b] : List Value).toArray below meth c s.heap [] 0 0 (Refuse.Cert p.tables below) (entryFrame m ([Value.ref b] : List Value).toArray 10)
  rw [lg_entry_eq]
  obtain ⟨f1, f2, -⟩ := lv_entry [Value.ref b] e1
  refine hW p e room_1 s m #[Value.ref b] below meth c s.heap [] 0 0 (Refuse.Cert p.tables below) (0, fun _ => 0) _ [] hF ⟨State.WarmedH.refl s, Nat.le_refl _, fun _ _ => rfl⟩ va_S.rf
    ⟨rfl, Nat.zero_le _, fun i j h => absurd h (Nat.not_lt_zero i), fun i h => absurd h (Nat.not_lt_zero i), fun _ => .inr (0, []), fun i h => absurd h (Nat.not_lt_zero i)⟩ ⟨by rw [hml2]; exact f1, f2, by rw [hml2]; rfl, fun j v hj h9 => ?_⟩ zall.nil ⟨by decide, by decide, ?_, ?_⟩ ⟨⟨fun z => by omega, fun z => by omega, fun _ t ht => ht⟩, fun z => by omega, fun z => by omega⟩
  · rcases j with _ | j
    · cases hj
      refine ⟨.ref b, rfl, (zr6 (v := 6) rfl _).mpr ?_⟩
      rw [← ha0]
    · have hv : v = 9 := by
        have : j = 0 ∨ j = 1 ∨ j = 2 ∨ j = 3 ∨ j = 4 ∨ j = 5 ∨ j = 6 ∨ j = 7 ∨ j = 8 ∨ 9 ≤ j := by omega
        rcases this with rfl | rfl | rfl | rfl | rfl | rfl | rfl | rfl | rfl | h
        · cases hj; rfl
        · cases hj; rfl
        · cases hj; rfl
        · cases hj; rfl
        · cases hj; rfl
        · cases hj; rfl
        · cases hj; rfl
        · cases hj; rfl
        · cases hj; rfl
        · have := (List.getElem?_eq_some_iff.mp hj).1
          have e : zl0.length = 10 := rfl
          omega
      rw [hv] at h9
      exact absurd rfl h9
  · show 0 + (o.2.2.2.1 - 0) ≤ 600006; omega
  · show 0 + (o.2.2.2.2.1 - 0) ≤ 7302040; omega
/-- .. so no run of it from there returns -/
theorem zlaw_never {l : Launch} (hflags : l.flags = flags0) {b : Nat} {p : Program} {e : Env} {s : State} {m : MethodId} {args : Array Value} {below : List Frame} (ha : l.admits e) (hc : FairCas e.choices) (hk : FairClock e.choices) (hf : s.frames = Frame.invoking m args :: below) (happ : (headSpec (Cond.code x code maxLocals ret :: tables_1) room_1).applies x e.platform s = true) (hP : zPd b args s) (hb : ∀ g r, below ≠ Frame.native g :: r) (n : Nat) (hw : ∀ k, k < n → Within (stepsAlone p.tables e k s) below) (v : Option Value) : ¬ Ended (stepsAlone p.tables e n s) below (.returned v) := by
  obtain ⟨s₂, ⟨n₀, hn, wn⟩, hcert⟩ := zlaw_dies l hflags b p e ha hc hk s m args below hf ((Spec.applies_iff_loose hf).mp happ).1
  have hcert := hcert args hf hP
  have hal : Refuse.Alive below (stepsAlone p.tables e n s) := by
    rcases Nat.lt_or_ge n n₀ with hlt | hge
    · exact .inl (wn n hlt)
    · obtain ⟨j, rfl⟩ := Nat.exists_eq_add_of_le hge
      rw [stepsAlone_add, hn]
      refine hcert.doomed e j fun k hk' => ?_
      have := hw (n₀ + k) (by omega)
      rwa [stepsAlone_add, hn] at this
  exact hal.not_returned hb v
end Dead
