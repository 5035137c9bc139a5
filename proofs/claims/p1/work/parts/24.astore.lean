section AStore
variable {m pc nx : Nat} {md : zMD}
theorem zasgn (vm : Vm) (c : ClassId) : vm.assignable c c = true := by
  show vm.assignableAux (255 + 1) c c = true
  rw [Vm.assignableAux, beq_self_eq_true, Bool.true_or]
theorem zaast {p : Program} {l : Launch} {e : Env} {R : Room} {s : State} {mid : MethodId} {args : Array Value} {below : List Frame} {meth : Method} {cc : Code} {H : Heap} {locs : List Loc} {cells slots : Nat} {Q : State → Prop} {lsA : Array Slot} {rest : List Value} {D : va_G} {ws : va_W} {A : Nat → Prop} {cb : ByteArray} (hx : p.tables.exec = Jvm.exec) (hb : cc.code = cb) (hP : va_P D zcls ws H) (hD : va_D A ws) (hS : va_S A s.heap H locs) {q0 a n : Nat} {cA : ClassId} {f : Nat → Option Nat} (ha : ws[q0]? = some (a, .inl (cA, n, zrf f))) {kA kcomp kv : Class} {comp : ClassId} {t : FieldType} (k1 : s.vm.classes[cA]? = some kA) (k2 : kA.kind = .array comp t) (href : t.isReference = true) (hkc : s.vm.classes[comp]? = some kcomp) {v : Nat} {cellV : Cell} (g1 : H[v]? = some cellV) (g3 : ∀ q, cellV.vm ≠ .statics q) (hkv : s.vm.classes[cellV.cls]? = some kv) (hinst : s.vm.assignable cellV.cls comp = true) {i : Int32} (hin : vp_in i n) (hdg : decode cb pc = .ok (.aastore, 1))
    (kk : ∀ (H1 : Heap) (locs1 : List Loc), va_P D zcls (ws.set q0 (a, .inl (cA, n, zrf (va_up f i.toNatClampNeg (some v))))) H1 → va_D A (ws.set q0 (a, .inl (cA, n, zrf (va_up f i.toNatClampNeg (some v))))) → va_S A s.heap H1 locs1 → W p l e R s mid args below meth cc H1 locs1 cells slots Q (F0 mid (pc + 1) lsA rest)) : W p l e R s mid args below meth cc H locs cells slots Q (F0 mid pc lsA (.ref v :: .int i :: .ref a :: rest)) := by
  have hlt : i.toNatClampNeg < n := Nat.not_le.mp fun q => hin (Or.inr q)
  have h0 : ¬ i < 0 := fun q => hin (Or.inl q)
  refine W.aast hx hb (hP q0 _ ha) (fun q h => by cases h) (fun h => by cases h) k1 k2 href hkc ⟨h0, by show _ < (arrV _ _ _).slots.size; rw [arrV_size]; exact hlt⟩ g1 g3 hkv hinst rfl rfl hdg fun H1 e z oq => ?_
  refine kk H1 _ (hP.set hD ha ?_ oq) (hD.set ha) (hS.put z oq (hD.2 q0 _ ha))
  show H1[a]? = some (vp_cell _ _)
  rw [e]
  rw [vp_cell_q, vp_cell_q, arrV_store]
  congr 2
  funext q
  by_cases hq : q = i.toNatClampNeg
  · subst hq
    simp [updV, va_up, va_rf]
  · simp [updV, va_up, hq]
def zAaRow (tg ct m pc nx : Nat) : Prop := ∀ (p : Program) (l : Launch) (e : Env) (R : Room) (s : State) (mid : MethodId) (args : Array Value) (below : List Frame) (meth : Method) (cc : Code) (H : Heap) (locs : List Loc) (cells slots : Nat) (Q : State → Prop) (lsA : Array Slot) (rest : List Value) (D : va_G) (dA : Nat → ClassId) (ws : va_W) (A : Nat → Prop) (q0 a n v : Nat) (f : Nat → Option Nat) (i : Int32) (cellV : Cell), zF m p s mid args meth cc → va_K D zcls2 (ztys dA) s → zAr dA s → va_P D zcls ws H → va_D A ws → va_S A s.heap H locs → ws[q0]? = some (a, .inl (dA tg, n, zrf f)) → H[v]? = some cellV → (∀ q, cellV.vm ≠ .statics q) → (ct < 16 → cellV.cls = D.1 ct) → (ct = 20 → cellV.cls = dA 20) → vp_in i n → (∀ (H1 : Heap) (locs1 : List Loc), va_P D zcls (ws.set q0 (a, .inl (dA tg, n, zrf (va_up f i.toNatClampNeg (some v))))) H1 → va_D A (ws.set q0 (a, .inl (dA tg, n, zrf (va_up f i.toNatClampNeg (some v))))) → va_S A s.heap H1 locs1 → W p l e R s mid args below meth cc H1 locs1 cells slots Q (F0 mid nx lsA rest)) → W p l e R s mid args below meth cc H locs cells slots Q (F0 mid pc lsA (.ref v :: .int i :: .ref a :: rest))
theorem zrow_aa1 {tg ct : Nat} {r : vw_C} (h20 : 20 ≤ tg ∧ tg < 29) (hct : ct < 16) (hm : zM m = some md) (hd : decode md.2.1 pc = .ok (.aastore, 1)) (hn : pc + 1 = nx) (hc : zcls2[ct]? = some r) (ht : ztyp tg = .object r.1) : zAaRow tg ct m pc nx := by
  subst hn
  intro p l e R s mid args below meth cc H locs cells slots Q lsA rest D dA ws A q0 a n v f i cellV hF hK hA hP hD hS ha g1 g3 hE1 hE2 hin k
  obtain ⟨hx, hb, -⟩ := hF.of hm
  have g2 := hE1 hct
  have hcls := (hK.1 ct r hc).2
  have hra := (hK.2 _ _ (ztys_at h20.1 h20.2)).2
  rw [ht] at hra
  obtain ⟨kA, comp, k1, k2, k3, -⟩ := hra
  have hcomp : comp = D.1 ct := Option.some.inj (k3.symm.trans hcls.1)
  subst hcomp
  obtain ⟨kC, hkC, -⟩ := id hcls.2
  exact zaast hx hb hP hD hS ha k1 k2 rfl hkC g1 g3 (by rw [g2]; exact hkC) (by rw [g2]; exact va_assign hcls) hin hd k
theorem zrow_aaO {tg ct : Nat} {r : vw_C} {E : String} (h20 : 20 ≤ tg ∧ tg < 29) (hct : ct < 16) (hm : zM m = some md) (hd : decode md.2.1 pc = .ok (.aastore, 1)) (hn : pc + 1 = nx) (hc : zcls2[ct]? = some r) (ht : ztyp tg = .object E) (hca : Cond.castable r.1 E ∈ zTn) : zAaRow tg ct m pc nx := by
  subst hn
  intro p l e R s mid args below meth cc H locs cells slots Q lsA rest D dA ws A q0 a n v f i cellV hF hK hA hP hD hS ha g1 g3 hE1 hE2 hin k
  obtain ⟨hx, hb, -, -, -, -, -, -, -, htn⟩ := hF.of hm
  have g2 := hE1 hct
  have hcls := (hK.1 ct r hc).2
  have hra := (hK.2 _ _ (ztys_at h20.1 h20.2)).2
  rw [ht] at hra
  obtain ⟨kA, comp, k1, k2, k3, -⟩ := hra
  obtain ⟨kE, hkE, -⟩ := Vm.findClass_spec k3
  obtain ⟨c0, t1, f1, f2, f3⟩ := Cond.castable_spec (htn _ hca)
  cases hcls.1.symm.trans f1
  cases k3.symm.trans f2
  obtain ⟨kC, hkC, -⟩ := id hcls.2
  exact zaast hx hb hP hD hS ha k1 k2 rfl hkE g1 g3 (by rw [g2]; exact hkC) (by rw [g2]; exact f3) hin hd k
theorem zrow_aaA (hm : zM m = some md) (hd : decode md.2.1 pc = .ok (.aastore, 1)) (hn : pc + 1 = nx) : zAaRow 27 20 m pc nx := by
  subst hn
  intro p l e R s mid args below meth cc H locs cells slots Q lsA rest D dA ws A q0 a n v f i cellV hF hK hA hP hD hS ha g1 g3 hE1 hE2 hin k
  obtain ⟨hx, hb, -⟩ := hF.of hm
  have hcls := hE2 rfl
  obtain ⟨kA, k1, k2⟩ := hA
  obtain ⟨-, kI, hkI, comp, hkind⟩ := (hK.2 _ _ (ztys_at (k := 20) (by omega) (by omega))).1 0 (fun _ => .null)
  have hkI : s.vm.classes[dA 20]? = some kI := hkI
  refine zaast hx hb hP hD hS ha k1 k2 rfl hkI g1 g3 (by rw [hcls]; exact hkI) ?_ hin hd k
  rw [hcls]
  exact zasgn _ _
theorem zsyn_s {q : Nat} {k : zR} {o : zo} : ∀ {l : List Nat}, zsyn l q k = some o → k = some o ∧ ∀ w ∈ l, w % 16 ≠ q / 16 := by
  intro l
  induction l with
  | nil => exact fun h => ⟨h, fun w hw => by cases hw⟩
  | cons a t ih =>
    intro h
    obtain ⟨b1, h⟩ := zB' h
    have b1 := znbeq b1
    rw [zl15, zs4] at b1
    obtain ⟨h1, h2⟩ := ih h
    refine ⟨h1, fun w hw => ?_⟩
    rcases List.mem_cons.mp hw with rfl | hw
    · exact b1
    · exact h2 w hw
theorem zsyp_s {q b : Nat} {o : zo} : ∀ {l : List Nat} {k : List Nat → zR}, zsyp l q b k = some o → ∃ r, k r = some o ∧ q / 16 < 16 ∧ ∀ w ∈ r, w = 16 * b + q / 16 ∨ (w ∈ l ∧ w % 16 ≠ q / 16) := by
  intro l
  induction l with
  | nil => intro k h; cases h
  | cons a t ih =>
    intro k h
    rcases zBc h with ⟨b1, h⟩ | ⟨b1, h⟩
    · have b1 := zbeq b1
      rw [zl15, zs4] at b1
      obtain ⟨h1, h2⟩ := zsyn_s h
      rw [zsl4, zs4, Nat.add_eq] at h1
      refine ⟨_, h1, by omega, fun w hw => ?_⟩
      rcases List.mem_cons.mp hw with rfl | hw
      · exact Or.inl rfl
      · exact Or.inr ⟨by simp [hw], h2 w hw⟩
    · have b1 := znbeq b1
      rw [zl15, zs4] at b1
      have h : zsyp t q b (fun r' => k (a :: r')) = some o := h
      obtain ⟨r, h1, h2, h3⟩ := ih h
      refine ⟨_, h1, h2, fun w hw => ?_⟩
      rcases List.mem_cons.mp hw with rfl | hw
      · exact Or.inr ⟨by simp, b1⟩
      · rcases h3 w hw with z | ⟨z1, z2⟩
        · exact Or.inl z
        · exact Or.inr ⟨by simp [z1], z2⟩
/-- what stands behind a value that is put into a row -/
def zaaV (G : zgl) (ctx : zctx) (ct v : Nat) (h : zh) (o : zo) : Prop := ∀ (k : zR), zcell h v (fun tag _ _ => @Bool.rec (fun _ => zR) none k (Nat.beq tag ct)) = some o → ∀ {s : State} {ad : zam} {H : Heap} {locs : List Loc} {X : Value}, zE0 G s → va_S (zA G) s.heap H locs → zHR G.2.1 G.2.2.1 G.2.2.2.1 G.2.2.2.2.heap.size ad h H → zrel G.2.1 ad v X → ∃ a cellV, X = .ref a ∧ H[a]? = some cellV ∧ (∀ q, cellV.vm ≠ .statics q) ∧ (ct < 16 → cellV.cls = G.2.2.1.1 ct) ∧ (ct = 20 → cellV.cls = G.2.2.2.1 20)
/-- .. a cell of the run -/
theorem zaaR {G : zgl} {ct a : Nat} {E : va_E} {c : zc} {H : Heap} {ad : zam} (hct : ct < 16 ∨ ct = 20) (b1 : c.1 = ct) (z0 : zcr G.2.1 G.2.2.2.1 ad c E) (hv : va_P G.2.2.1 zcls2 [(a, E)] H) : ∃ cellV, H[a]? = some cellV ∧ (∀ q, cellV.vm ≠ .statics q) ∧ (ct < 16 → cellV.cls = G.2.2.1.1 ct) ∧ (ct = 20 → cellV.cls = G.2.2.2.1 20) := by
  obtain ⟨-, ⟨z, fs, rfl, -⟩ | ⟨z, f, rfl, -⟩ | ⟨z, -⟩ | ⟨z, -⟩ | ⟨z, -⟩ | ⟨z, -⟩⟩ := z0
  · obtain ⟨r', hr', cellV, g1, g2, g3, -⟩ := hv 0 _ rfl
    exact ⟨cellV, g1, fun q e => (by rw [g3] at e; cases e), fun _ => by rw [g2, b1], fun w => by omega⟩
  · have g1 := hv 0 _ rfl
    exact ⟨_, g1, fun q e => (by cases e), fun w => by omega, fun w => by rw [b1, w]; rfl⟩
  · exfalso; omega
  · exfalso; omega
  · exfalso; omega
  · exfalso; omega
theorem zaasX {tg ct : Nat} (htg : 25 ≤ tg ∧ tg ≤ 28) (row : zAaRow tg ct m pc nx) {G : zgl} {ctx : zctx} {ih : zI} (hG : zEok G.2.1) (hP : zPre G ctx) (hI : zIH G ih) {dep v : Nat} {ls t0 : List Nat} {h : zh} {o : zo} (hEv0 : zaaV G ctx ct v h o) (ho : s_aas tg ct nx ctx ih m dep ls (v :: t0) h = some o) : zmo h o.2.2 ∧ zW G m pc dep ls (v :: t0) h o := by
  obtain ⟨i, t, rfl, h2⟩ := zLs ho
  obtain ⟨r, t, rfl, h3⟩ := zLs h2
  obtain ⟨b0, h3⟩ := zB h3
  obtain ⟨la, h4⟩ := zcel_s h3
  obtain ⟨c, h5, -⟩ := zcell_s h4
  obtain ⟨-, h5⟩ := zB h5
  rw [zs4] at la
  rcases zBc h5 with ⟨b2, h5⟩ | ⟨-, h5⟩
  · obtain ⟨b3, h5⟩ := zB h5
    obtain ⟨b4, h5⟩ := zB h5
    have b3 : (zG h.2.2.2 (Nat.shiftRight r 4)).1 = tg := zbeq b3
    have b4 : Nat.shiftRight i 4 < (zG h.2.2.2 (Nat.shiftRight r 4)).2.1 := zble b4
    obtain ⟨b5, h6⟩ := zls_s h5
    rw [zsetc_s] at h6
    rw [zs4, zs4] at h6
    rw [zs4] at b3
    rw [zs4, zs4] at b4
    obtain ⟨k1, k2⟩ := hI m nx dep ls t _ o h6
    refine ⟨k1, fun p e R s mid args below meth cc H locs cells slots Q ad lsA vals q1 q2 q3 q4 q5 q6 q7 q8 => ?_⟩
    obtain ⟨X, vals, rfl, r1, hv1⟩ := q6.inv
    obtain ⟨I, vals, rfl, r2, hv2⟩ := hv1.inv
    obtain ⟨Y, vals, rfl, r3, hv3⟩ := hv2.inv
    obtain ⟨-, rfl⟩ := (zr4 (zkq b0) Y).mp r3
    obtain ⟨j, rfl, hj, rfl⟩ := zn0 (zkq b2) r2
    obtain ⟨a, cellV, rfl, x1, x2, e1, e2⟩ := hEv0 _ h4 q2 q3 q4 r1
    obtain ⟨-, -, g3, g4, es, g5⟩ := id q4
    obtain ⟨⟨w0, w1⟩, w2⟩ := g5 _ la
    rw [zq16] at b4
    have hcl : (nI j).toNatClampNeg = j := nI_clamp (by omega)
    rcases w1 with ⟨z, -⟩ | ⟨z, -⟩ | ⟨z, -⟩ | ⟨z, -⟩ | ⟨z, f, hE, hf⟩ | ⟨z, -⟩
    · exfalso; omega
    · exfalso; omega
    · exfalso; omega
    · exfalso; omega
    · rw [b3] at hE
      have he := (zws_at (ad := ad) (es := es) la).trans (congrArg some (congrArg (Prod.mk _) hE))
      refine row p G.1 e R s mid args below meth cc H locs cells slots Q lsA vals G.2.2.1 G.2.2.2.1 (zws h.1 ad es) (zA G) (r / 16) _ _ a f (nI j) cellV q1 (zK hP q2) (hP.2.2.2.1 s q2.1.alike) (zws_P fun i hi => (g5 i hi).2) (zws_D g3 g4) q3 he x1 x2 e1 e2 (nI_in b4 (by omega)) fun H1 locs1 p1 p2 p3 => ?_
      refine k2 p e R s mid args below meth cc H1 locs1 cells slots Q ad lsA vals q1 q2 p3 (zHR.put (zHRn q4) (fun i hi => (g5 i hi).1) la ⟨w0, Or.inr (Or.inr (Or.inr (Or.inr (Or.inl ⟨z, _, by rw [b3], ?_⟩))))⟩ p1) q5 hv3 q7 (q8.step (zle.rf ad) rfl rfl)
      intro j2 w hw
      rw [hcl]
      rcases zset_r hw with ⟨y1, rfl⟩ | ⟨y1, y2⟩
      · rw [zq16] at y1
        subst y1
        rw [va_up_self]; exact r1
      · rw [zq16] at y1
        rw [va_up_ne _ _ y1]; exact hf j2 w y2
    · exfalso; omega
  · obtain ⟨b2, h5⟩ := zB h5
    obtain ⟨b3, h5⟩ := zB h5
    obtain ⟨b4, h5⟩ := zB h5
    obtain ⟨b5, h5⟩ := zB h5
    have b3 : (zG h.2.2.2 (Nat.shiftRight r 4)).1 = 31 := zbeq b3
    have b4 : tg = 28 := zbeq b4
    obtain ⟨l', h6, y0, hl'⟩ := zsyp_s h5
    rw [zsetc_s] at h6
    rw [zs4] at h6 b3
    rw [zs4, zs4] at hl'
    obtain ⟨k1, k2⟩ := hI m nx dep ls t _ o h6
    refine ⟨k1, fun p e R s mid args below meth cc H locs cells slots Q ad lsA vals q1 q2 q3 q4 q5 q6 q7 q8 => ?_⟩
    obtain ⟨X, vals, rfl, r1, hv1⟩ := q6.inv
    obtain ⟨I, vals, rfl, r2, hv2⟩ := hv1.inv
    obtain ⟨Y, vals, rfl, r3, hv3⟩ := hv2.inv
    obtain ⟨-, rfl⟩ := (zr4 (zkq b0) Y).mp r3
    obtain ⟨l2, rfl⟩ := (zr1 (zkq b2) I).mp r2
    obtain ⟨a, cellV, e0, x1, x2, e1, e2⟩ := hEv0 _ h4 q2 q3 q4 r1
    obtain ⟨l3, e3⟩ := (zr4 (zkq b5) X).mp r1
    have ea : a = ad.2 (v / 16) := by rw [e0] at e3; exact Value.ref.inj e3
    subst e0
    subst ea
    obtain ⟨-, -, g3, g4, es, g5⟩ := id q4
    obtain ⟨⟨w0, w1⟩, w2⟩ := g5 _ la
    obtain ⟨n1, n2⟩ := hG.1 _ l2
    have c1 : ∀ z : Int32, z.toNatClampNeg = z.toInt.toNat := fun _ => rfl
    rcases w1 with ⟨z, -⟩ | ⟨z, -⟩ | ⟨z, -⟩ | ⟨z, -⟩ | ⟨z, -⟩ | ⟨z, z8, f, hE, hf⟩
    · exfalso; omega
    · exfalso; omega
    · exfalso; omega
    · exfalso; omega
    · exfalso; omega
    · rw [b3] at hE
      have hE : es (r / 16) = .inl (G.2.2.2.1 tg, 8, zrf f) := by rw [hE, b4]; rfl
      have he := (zws_at (ad := ad) (es := es) la).trans (congrArg some (congrArg (Prod.mk _) hE))
      have hin : vp_in (G.2.1.1 (i / 16)) 8 := fun q => by
        rcases q with q | q
        · have q : (G.2.1.1 (i / 16)).toInt < (0 : Int32).toInt := Int32.lt_iff_toInt_lt.mp q
          have : (0 : Int32).toInt = 0 := rfl
          omega
        · have := c1 (G.2.1.1 (i / 16))
          omega
      refine row p G.1 e R s mid args below meth cc H locs cells slots Q lsA vals G.2.2.1 G.2.2.2.1 (zws h.1 ad es) (zA G) (r / 16) _ _ _ f _ cellV q1 (zK hP q2) (hP.2.2.2.1 s q2.1.alike) (zws_P fun i hi => (g5 i hi).2) (zws_D g3 g4) q3 he x1 x2 e1 e2 hin fun H1 locs1 p1 p2 p3 => ?_
      refine k2 p e R s mid args below meth cc H1 locs1 cells slots Q ad lsA vals q1 q2 p3 (zHR.put (zHRn q4) (fun i hi => (g5 i hi).1) la ⟨w0, Or.inr (Or.inr (Or.inr (Or.inr (Or.inr ⟨z, z8, _, by rw [b3, b4]; rfl, ?_⟩))))⟩ p1) q5 hv3 q7 (q8.step (zle.rf ad) rfl rfl)
      intro w hw
      rcases hl' w hw with z1 | ⟨z1, z2⟩
      · have m1 : w % 16 = i / 16 := by omega
        have m2 : w / 16 = v / 16 := by omega
        rw [m1, m2]
        exact ⟨l2, l3, va_up_self _ _ _⟩
      · obtain ⟨m1, m2, m3⟩ := hf w z1
        refine ⟨m1, m2, ?_⟩
        rw [va_up_ne _ _ ?_]; exact m3
        intro m4
        obtain ⟨n3, n4⟩ := hG.1 _ m1
        have m5 := c1 (G.2.1.1 (i / 16))
        have m6 := c1 (G.2.1.1 (w % 16))
        have : (G.2.1.1 (w % 16)).toInt = (G.2.1.1 (i / 16)).toInt := by omega
        exact z2 (hG.2.1 _ _ m1 l2 (Int32.toInt_inj.mp this))
theorem ok_aasP {Pre : zgl → zctx → Prop} (hPre : ∀ G ctx, Pre G ctx → zPre G ctx) {tg ct : Nat} (htg : 25 ≤ tg ∧ tg ≤ 28) (hct : ct < 16 ∨ ct = 20) (h20 : ct = 20 → ∀ G ctx, Pre G ctx → zGap G) (row : zAaRow tg ct m pc nx) : zOK Pre m pc (s_aas tg ct nx) := by
  intro G ctx ih hG hN hP0 hI dep ls st h o ho
  have hP := hPre G ctx hP0
  obtain ⟨v, t, rfl, -⟩ := zLs ho
  refine zaasX htg row hG hP hI (fun k hz s ad H locs X h0 hS hH r1 => ?_) ho
  obtain ⟨c, ho2, hc⟩ := zcell_s hz
  obtain ⟨b1, -⟩ := zB ho2
  have b1 : c.1 = ct := zbeq b1
  rcases hc G ctx s ad H locs X hP h0 hS hH r1 (by omega) with ⟨a, E, rfl, z0, hv⟩ | ⟨kk, hkk, rfl, -, ⟨z, z2, r, hr, hO, -⟩ | ⟨z, -⟩⟩
  · obtain ⟨cellV, g⟩ := zaaR hct b1 z0 hv
    exact ⟨a, cellV, rfl, g⟩
  · obtain ⟨cellV, g1, g2, g3, -⟩ := (zXo_O h0 hO).kept hS.2.1
    refine ⟨_, cellV, rfl, g1, fun q e => (by rw [e] at g2; cases g2), fun _ => ?_, fun w => by omega⟩
    rw [b1] at hr
    exact Option.some.inj (g3.symm.trans ((zK hP h0).1 ct r hr).2.1)
  · obtain ⟨cell, g1, g2, g3⟩ := h20 (by omega) G ctx hP0 kk c hkk (by omega)
    exact ⟨_, cell, rfl, by rw [zold h0 hS (Array.getElem?_eq_some_iff.mp g1).1]; exact g1, g3, fun w => by omega, fun _ => g2⟩
/-- a row of the run's own put into a row of rows -/
noncomputable def s_aa4 (tg ct nx : Nat) : zS := fun ctx ih m dep ls st h => List.rec (motive := fun _ => zR) none (fun v _ _ => @Bool.rec (fun _ => zR) none (s_aas tg ct nx ctx ih m dep ls st h) (Nat.beq (Nat.land v 15) 4)) st
theorem ok_aa4 {tg : Nat} (htg : 25 ≤ tg ∧ tg ≤ 28) (row : zAaRow tg 20 m pc nx) : zOK zPre m pc (s_aa4 tg 20 nx) := by
  intro G ctx ih hG hN hP hI dep ls st h o ho
  obtain ⟨v, t, rfl, ho⟩ := zLs ho
  obtain ⟨b4, ho⟩ := zB ho
  have b4 : v % 16 = 4 := zkq b4
  refine zaasX htg row hG hP hI (fun k hz s ad H locs X h0 hS hH r1 => ?_) ho
  rcases zBc hz with ⟨-, hz⟩ | ⟨-, hz⟩
  · obtain ⟨la, hz⟩ := zcel_s hz
    obtain ⟨b1, -⟩ := zB hz
    have b1 := zbeq b1
    rw [zs4] at la b1
    obtain ⟨-, rfl⟩ := (zr4 b4 X).mp r1
    obtain ⟨-, -, -, -, es, g5⟩ := hH
    obtain ⟨w1, w2⟩ := g5 _ la
    obtain ⟨cellV, g⟩ := zaaR (a := ad.2 (v / 16)) (Or.inr rfl) b1 w1 (fun j x hj => by
      cases j with
      | zero => cases hj; exact va_at2 w2
      | succ j => cases hj)
    exact ⟨_, cellV, rfl, g⟩
  · obtain ⟨b6, -⟩ := zB hz
    have b6 : v % 16 = 6 := zkq b6
    exfalso; omega
theorem ok_aas0 {tg ct : Nat} (htg : 25 ≤ tg ∧ tg ≤ 28) (hct : ct < 16) (row : zAaRow tg ct m pc nx) : zOK zPre m pc (s_aas tg ct nx) := ok_aasP (fun _ _ h => h) htg (Or.inl hct) (fun z => by omega) row
theorem ok_aas2 {tg : Nat} (htg : 25 ≤ tg ∧ tg ≤ 28) (row : zAaRow tg 20 m pc nx) : zOK zPreI m pc (s_aas tg 20 nx) := ok_aasP (fun _ _ h => h.1) htg (Or.inr rfl) (fun _ _ _ h => h.2) row
end AStore
