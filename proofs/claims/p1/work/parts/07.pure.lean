theorem zF.of {m : Nat} {p : Program} {s : State} {mid : MethodId} {args : Array Value} {meth : Method} {c : Code} {md : zMD} (hm : zM m = some md) (h : zF m p s mid args meth c) : p.tables.exec = Jvm.exec ∧ c.code = md.2.1 ∧ c.maxLocals = md.2.2.1 ∧ s.vm.findClass md.1.cls = some mid.cls ∧ (∀ w ∈ zTg, w.before args s = true) ∧ meth.locks = false ∧ meth.sig.returnType = md.2.2.2.1 ∧ meth.name = md.1.name ∧ c.exceptionTable.toList = tableOf md.2.2.2.2 ∧ (∀ w ∈ zTn, w.before args s = true) := by
  obtain ⟨md', h1, h2⟩ := h
  cases Option.some.inj (hm.symm.trans h1)
  exact h2
section Pure
variable {Pre : zgl → zctx → Prop} {m pc nx : Nat} {md : zMD}
theorem ok_s_k {v : Nat} {X : Value} (hX : ∀ (G : zgl) (ctx : zctx), zEok G.2.1 → Pre G ctx → ∀ ad, zrel G.2.1 ad v X) (hs : ∀ vals, zStep m pc vals nx (X :: vals)) : zOK Pre m pc (s_k v nx) :=
  zOK.pure fun G ctx ih dep ls st h o hG hN hP ho => ⟨nx, v :: st, ho, fun ad vals hv => ⟨X :: vals, zall.cons (hX G ctx hG hP ad) hv, hs vals⟩⟩
theorem zr0_ofv {E : zen} {ad : zam} {v : Nat} {i : Int32} (h : v % 16 = 0 ∧ v / 16 < 4294967296 ∧ i = Int32.ofNat (v / 16)) : zrel E ad v (.int i) := (zr0 h.1 _).mpr ⟨h.2.1, by rw [h.2.2]⟩
theorem ok_iconst {n : Int} {v : Nat} (hm : zM m = some md) (hd : decode md.2.1 pc = .ok (.iconst n, 1)) (hn : pc + 1 = nx) (hv : v % 16 = 0 ∧ v / 16 < 4294967296 ∧ Int32.ofInt n = Int32.ofNat (v / 16)) : zOK Pre m pc (s_k v nx) :=
  ok_s_k (fun _ _ _ _ _ => zr0_ofv hv) fun vals p l e R s mid args below meth c H locs cells slots Q lsA hF k => by
    subst hn; obtain ⟨hx, hb, -⟩ := hF.of hm; exact lv_iconst hx hb hd rfl k
theorem ok_bipush {n : Int} {v : Nat} (hm : zM m = some md) (hd : decode md.2.1 pc = .ok (.bipush n, 2)) (hn : pc + 2 = nx) (hv : v % 16 = 0 ∧ v / 16 < 4294967296 ∧ (Int8.ofInt n).toInt32 = Int32.ofNat (v / 16)) : zOK Pre m pc (s_k v nx) :=
  ok_s_k (fun _ _ _ _ _ => zr0_ofv hv) fun vals p l e R s mid args below meth c H locs cells slots Q lsA hF k => by
    subst hn; obtain ⟨hx, hb, -⟩ := hF.of hm; exact lv_bipush hx hb hd rfl k
theorem ok_sipush {n : Int} {v : Nat} (hm : zM m = some md) (hd : decode md.2.1 pc = .ok (.sipush n, 3)) (hn : pc + 3 = nx) (hv : v % 16 = 0 ∧ v / 16 < 4294967296 ∧ (Int16.ofInt n).toInt32 = Int32.ofNat (v / 16)) : zOK Pre m pc (s_k v nx) :=
  ok_s_k (fun _ _ _ _ _ => zr0_ofv hv) fun vals p l e R s mid args below meth c H locs cells slots Q lsA hF k => by
    subst hn; obtain ⟨hx, hb, -⟩ := hF.of hm; exact lv_sipush hx hb hd rfl k
theorem ok_lconst {n : Fin 2} {v : Nat} (hm : zM m = some md) (hd : decode md.2.1 pc = .ok (.lconst n, 1)) (hn : pc + 1 = nx) (hv : v % 16 = 2 ∧ v / 16 < 18446744073709551616 ∧ Int64.ofNat (n : Nat) = Int64.ofNat (v / 16)) : zOK Pre m pc (s_k v nx) :=
  ok_s_k (X := .long (Int64.ofNat (n : Nat))) (fun _ _ _ _ _ => (zr2 hv.1 _).mpr ⟨hv.2.1, by rw [hv.2.2]⟩) fun vals p l e R s mid args below meth c H locs cells slots Q lsA hF k => by
    subst hn; obtain ⟨hx, hb, -⟩ := hF.of hm; exact lv_lconst hx hb hd rfl k
theorem ok_ldc {i : Nat} {n : Int32} {v : Nat} (hm : zM m = some md) (hd : decode md.2.1 pc = .ok (.ldc i, 2)) (hn : pc + 2 = nx) (hw : Cond.constant md.1.cls i n ∈ zTg) (hv : v % 16 = 0 ∧ v / 16 < 4294967296 ∧ n = Int32.ofNat (v / 16)) : zOK Pre m pc (s_k v nx) :=
  ok_s_k (fun _ _ _ _ _ => zr0_ofv hv) fun vals p l e R s mid args below meth c H locs cells slots Q lsA hF k => by
    subst hn; obtain ⟨hx, hb, -, hown, hts, -⟩ := hF.of hm; exact lv_ldc hx hb hown (hts _ hw) hd k
theorem ok_ldcw {i : Nat} {n : Int32} {v : Nat} (hm : zM m = some md) (hd : decode md.2.1 pc = .ok (.ldc_w i, 3)) (hn : pc + 3 = nx) (hw : Cond.constant md.1.cls i n ∈ zTg) (hv : v % 16 = 0 ∧ v / 16 < 4294967296 ∧ n = Int32.ofNat (v / 16)) : zOK Pre m pc (s_k v nx) :=
  ok_s_k (fun _ _ _ _ _ => zr0_ofv hv) fun vals p l e R s mid args below meth c H locs cells slots Q lsA hF k => by
    subst hn; obtain ⟨hx, hb, -, hown, hts, -⟩ := hF.of hm; exact lv_ldcw hx hb hown (hts _ hw) hd k
theorem ok_ldc2 {i : Nat} {n : Int64} {v : Nat} (hm : zM m = some md) (hd : decode md.2.1 pc = .ok (.ldc2_w i, 3)) (hn : pc + 3 = nx) (hw : Cond.constantLong md.1.cls i n ∈ zTg) (hv : v % 16 = 2 ∧ v / 16 < 18446744073709551616 ∧ n = Int64.ofNat (v / 16)) : zOK Pre m pc (s_k v nx) :=
  ok_s_k (X := .long n) (fun _ _ _ _ _ => (zr2 hv.1 _).mpr ⟨hv.2.1, by rw [hv.2.2]⟩) fun vals p l e R s mid args below meth c H locs cells slots Q lsA hF k => by
    subst hn; obtain ⟨hx, hb, -, hown, hts, -⟩ := hF.of hm; exact lv_ldc2 hx hb hown (hts _ hw) hd k
theorem ok_ldc2d {i : Nat} {n : UInt64} {v : Nat} (hm : zM m = some md) (hd : decode md.2.1 pc = .ok (.ldc2_w i, 3)) (hn : pc + 3 = nx) (hw : Cond.constantDouble md.1.cls i n ∈ zTg) (hv : v % 16 = 7 ∧ n = UInt64.ofNat (v / 16)) : zOK Pre m pc (s_k v nx) :=
  ok_s_k (X := .double n) (fun _ _ _ _ _ => (zr7 hv.1 _).mpr (by rw [hv.2])) fun vals p l e R s mid args below meth c H locs cells slots Q lsA hF k => by
    subst hn; obtain ⟨hx, hb, -, hown, hts, -⟩ := hF.of hm; exact lv_ldc2d hx hb hown (hts _ hw) hd k
theorem ok_go {off : Int} {t : Nat} (hm : zM m = some md) (hd : decode md.2.1 pc = .ok (.goto off, 3)) (ht : (pc : Int) + off = (t : Int)) : zOK Pre m pc (s_go t) :=
  zOK.pure fun G ctx ih dep ls st h o hG hN hP ho => ⟨t, st, ho, fun ad vals hv => ⟨vals, hv, fun p l e R s mid args below meth c H locs cells slots Q lsA hF k => by
    obtain ⟨hx, hb, -⟩ := hF.of hm; exact lv_goto hx hb hd ht k⟩⟩
/-- kinds: by a mask -/
theorem zmask {ms v : Nat} {k : Nat → zR → zR} {o : zo} (h : @Nat.rec (fun _ => zR) none k (Nat.land (Nat.shiftRight ms (Nat.land v 15)) 1) = some o) : (ms >>> (v % 16)) &&& 1 ≠ 0 := by
  obtain ⟨j, h1, -⟩ := zN h
  rw [zl15] at h1
  have h2 : (ms >>> (v % 16)) &&& 1 = j + 1 := h1
  omega
theorem zmask0 {ms v : Nat} {k : zR} {o : zo} (h : @Nat.rec (fun _ => zR) k (fun _ _ => none) (Nat.land (Nat.shiftRight ms (Nat.land v 15)) 1) = some o) : (ms >>> (v % 16)) &&& 1 = 0 ∧ k = some o := by
  obtain ⟨h1, h2⟩ := zN0 h
  rw [zl15] at h1
  exact ⟨h1, h2⟩
theorem zkindI {v : Nat} (h : (45067 >>> (v % 16)) &&& 1 ≠ 0) : v % 16 = 0 ∨ v % 16 = 1 ∨ v % 16 = 3 ∨ v % 16 = 12 ∨ v % 16 = 13 ∨ v % 16 = 15 :=
  (by decide : ∀ k, k < 16 → (45067 >>> k) &&& 1 ≠ 0 → k = 0 ∨ k = 1 ∨ k = 3 ∨ k = 12 ∨ k = 13 ∨ k = 15) (v % 16) (Nat.mod_lt _ (by decide)) h
theorem zkindL {v : Nat} (h : (18436 >>> (v % 16)) &&& 1 ≠ 0) : v % 16 = 2 ∨ v % 16 = 11 ∨ v % 16 = 14 :=
  (by decide : ∀ k, k < 16 → (18436 >>> k) &&& 1 ≠ 0 → k = 2 ∨ k = 11 ∨ k = 14) (v % 16) (Nat.mod_lt _ (by decide)) h
theorem zkindA {v : Nat} (h : (1136 >>> (v % 16)) &&& 1 ≠ 0) : v % 16 = 4 ∨ v % 16 = 5 ∨ v % 16 = 6 ∨ v % 16 = 10 :=
  (by decide : ∀ k, k < 16 → (1136 >>> k) &&& 1 ≠ 0 → k = 4 ∨ k = 5 ∨ k = 6 ∨ k = 10) (v % 16) (Nat.mod_lt _ (by decide)) h
theorem zkindD {v : Nat} (h : (128 >>> (v % 16)) &&& 1 ≠ 0) : v % 16 = 7 :=
  (by decide : ∀ k, k < 16 → (128 >>> k) &&& 1 ≠ 0 → k = 7) (v % 16) (Nat.mod_lt _ (by decide)) h
theorem zkindF {v : Nat} (h : (256 >>> (v % 16)) &&& 1 ≠ 0) : v % 16 = 8 :=
  (by decide : ∀ k, k < 16 → (256 >>> k) &&& 1 ≠ 0 → k = 8) (v % 16) (Nat.mod_lt _ (by decide)) h
theorem zkind2 {v : Nat} (h : (18564 >>> (v % 16)) &&& 1 = 0) : v % 16 ≠ 2 ∧ v % 16 ≠ 7 ∧ v % 16 ≠ 11 :=
  (by decide : ∀ k, k < 16 → (18564 >>> k) &&& 1 = 0 → k ≠ 2 ∧ k ≠ 7 ∧ k ≠ 11) (v % 16) (Nat.mod_lt _ (by decide)) h
theorem zint {E : zen} {ad : zam} {v : Nat} {x : Value} (h : v % 16 = 0 ∨ v % 16 = 1 ∨ v % 16 = 3 ∨ v % 16 = 12 ∨ v % 16 = 13 ∨ v % 16 = 15) (r : zrel E ad v x) : ∃ i : Int32, x = .int i := by
  rcases h with h | h | h | h | h | h
  · exact ⟨_, ((zr0 h x).mp r).2⟩
  · exact ⟨_, ((zr1 h x).mp r).2⟩
  · obtain ⟨i, q, -⟩ := (zr3 h x).mp r; exact ⟨i, q⟩
  · obtain ⟨i, q, -⟩ := (zr12 h x).mp r; exact ⟨i, q⟩
  · obtain ⟨i, q, -⟩ := (zr13 h x).mp r; exact ⟨i, q⟩
  · obtain ⟨n, -, q, -⟩ := (zr15 h x).mp r; exact ⟨_, q⟩
theorem zlong {E : zen} {ad : zam} {v : Nat} {x : Value} (h : v % 16 = 2 ∨ v % 16 = 11 ∨ v % 16 = 14) (r : zrel E ad v x) : ∃ i : Int64, x = .long i := by
  rcases h with h | h | h
  · exact ⟨_, ((zr2 h x).mp r).2⟩
  · obtain ⟨i, q, -⟩ := (zr11 h x).mp r; exact ⟨_, q⟩
  · obtain ⟨n, -, q, -⟩ := (zr14 h x).mp r; exact ⟨_, q⟩
/-- a value of one word -/
theorem zcat1 {E : zen} {ad : zam} {v : Nat} {x : Value} (hG : zEok E) (h : (18564 >>> (v % 16)) &&& 1 = 0) (r : zrel E ad v x) : x.category = 1 := by
  unfold zrel at r
  split at r
  · rw [r.2]; rfl
  · rw [r.2]; rfl
  · rename_i q; rw [q] at h; exact absurd h (by decide)
  · obtain ⟨i, q, -⟩ := r; rw [q]; rfl
  · rw [r.2]; rfl
  · rw [r]; rfl
  · rw [r]; rfl
  · rename_i q; rw [q] at h; exact absurd h (by decide)
  · rw [r]; rfl
  · rw [r]; rcases hG.2.2 with z | ⟨u, z⟩ <;> rw [z] <;> rfl
  · rename_i q; rw [q] at h; exact absurd h (by decide)
  · obtain ⟨i, q, -⟩ := r; rw [q]; rfl
  · obtain ⟨i, q, -⟩ := r; rw [q]; rfl
  · rename_i q; rw [q] at h; exact absurd h (by decide)
  · obtain ⟨n, -, q, -⟩ := r; rw [q]; rfl
  · exact r.elim
theorem zcat2 {E : zen} {ad : zam} {v : Nat} {x : Value} (h : (18564 >>> (v % 16)) &&& 1 ≠ 0) (r : zrel E ad v x) : x.category = 2 := by
  have hk : v % 16 = 2 ∨ v % 16 = 7 ∨ v % 16 = 11 ∨ v % 16 = 14 := by
    exact (by decide : ∀ k, k < 16 → (18564 >>> k) &&& 1 ≠ 0 → k = 2 ∨ k = 7 ∨ k = 11 ∨ k = 14) (v % 16) (Nat.mod_lt _ (by decide)) h
  rcases hk with z | z | z | z
  · rw [((zr2 z x).mp r).2]; rfl
  · rw [(zr7 z x).mp r]; rfl
  · obtain ⟨i, q, -⟩ := (zr11 z x).mp r; rw [q]; rfl
  · obtain ⟨n, -, q, -⟩ := (zr14 z x).mp r; rw [q]; rfl
end Pure
