section Stores
variable {m pc nx : Nat} {md : zMD}
def zAsI (tg ft m pc nx : Nat) : Prop := ∀ (p : Program) (l : Launch) (e : Env) (R : Room) (s : State) (mid : MethodId) (args : Array Value) (below : List Frame) (meth : Method) (cc : Code) (H : Heap) (locs : List Loc) (cells slots : Nat) (Q : State → Prop) (lsA : Array Slot) (rest : List Value) (D : va_G) (tys : List (ClassId × FieldType)) (ws : va_W) (A : Nat → Prop) (q0 t0 a n : Nat) (cA : ClassId) (f : Nat → Int32) (i : Int32) (x : Int32), zF m p s mid args meth cc → va_K D zcls tys s → va_P D zcls ws H → va_D A ws → va_S A s.heap H locs → ws[q0]? = some (a, .inl (cA, n, .inl f)) → tys[t0]? = some (cA, ztyp tg) → vp_in i n → zftOK ft (.int x) → (∀ (H1 : Heap) (locs1 : List Loc), va_P D zcls (ws.set q0 (a, .inl (cA, n, .inl (upd f i.toNatClampNeg x)))) H1 → va_D A (ws.set q0 (a, .inl (cA, n, .inl (upd f i.toNatClampNeg x)))) → va_S A s.heap H1 locs1 → W p l e R s mid args below meth cc H1 locs1 cells slots Q (F0 mid nx lsA rest)) → W p l e R s mid args below meth cc H locs cells slots Q (F0 mid pc lsA (.int x :: .int i :: .ref a :: rest))
def zAsL (tg ft m pc nx : Nat) : Prop := ∀ (p : Program) (l : Launch) (e : Env) (R : Room) (s : State) (mid : MethodId) (args : Array Value) (below : List Frame) (meth : Method) (cc : Code) (H : Heap) (locs : List Loc) (cells slots : Nat) (Q : State → Prop) (lsA : Array Slot) (rest : List Value) (D : va_G) (tys : List (ClassId × FieldType)) (ws : va_W) (A : Nat → Prop) (q0 t0 a n : Nat) (cA : ClassId) (f : Nat → Int64) (i : Int32) (x : Int64), zF m p s mid args meth cc → va_K D zcls tys s → va_P D zcls ws H → va_D A ws → va_S A s.heap H locs → ws[q0]? = some (a, .inl (cA, n, .inr (.inl f))) → tys[t0]? = some (cA, ztyp tg) → vp_in i n → zftOK ft (.long x) → (∀ (H1 : Heap) (locs1 : List Loc), va_P D zcls (ws.set q0 (a, .inl (cA, n, .inr (.inl (vp_updL f i.toNatClampNeg x))))) H1 → va_D A (ws.set q0 (a, .inl (cA, n, .inr (.inl (vp_updL f i.toNatClampNeg x))))) → va_S A s.heap H1 locs1 → W p l e R s mid args below meth cc H1 locs1 cells slots Q (F0 mid nx lsA rest)) → W p l e R s mid args below meth cc H locs cells slots Q (F0 mid pc lsA (.long x :: .int i :: .ref a :: rest))
def zAsD (tg ft m pc nx : Nat) : Prop := ∀ (p : Program) (l : Launch) (e : Env) (R : Room) (s : State) (mid : MethodId) (args : Array Value) (below : List Frame) (meth : Method) (cc : Code) (H : Heap) (locs : List Loc) (cells slots : Nat) (Q : State → Prop) (lsA : Array Slot) (rest : List Value) (D : va_G) (tys : List (ClassId × FieldType)) (ws : va_W) (A : Nat → Prop) (q0 t0 a n : Nat) (cA : ClassId) (f : Nat → UInt64) (i : Int32) (x : UInt64), zF m p s mid args meth cc → va_K D zcls tys s → va_P D zcls ws H → va_D A ws → va_S A s.heap H locs → ws[q0]? = some (a, .inl (cA, n, .inr (.inr (.inr (.inl f))))) → tys[t0]? = some (cA, ztyp tg) → vp_in i n → zftOK ft (.double x) → (∀ (H1 : Heap) (locs1 : List Loc), va_P D zcls (ws.set q0 (a, .inl (cA, n, .inr (.inr (.inr (.inl (vf_upd f i.toNatClampNeg x))))))) H1 → va_D A (ws.set q0 (a, .inl (cA, n, .inr (.inr (.inr (.inl (vf_upd f i.toNatClampNeg x))))))) → va_S A s.heap H1 locs1 → W p l e R s mid args below meth cc H1 locs1 cells slots Q (F0 mid nx lsA rest)) → W p l e R s mid args below meth cc H locs cells slots Q (F0 mid pc lsA (.double x :: .int i :: .ref a :: rest))
theorem zrow_iastore (hm : zM m = some md) (hd : decode md.2.1 pc = .ok (.iastore, 1)) (hn : pc + 1 = nx) : zAsI 20 0 m pc nx := by
  subst hn
  intro p l e R s mid args below meth cc H locs cells slots Q lsA rest D tys ws A q0 t0 a n cA f i x hF hK hP hD hS he ht hin hX k
  obtain ⟨hx, hb, -⟩ := hF.of hm
  exact va_iast hx hb hK hP hD hS q0 t0 he ht hin hd k
theorem zrow_bastore (hm : zM m = some md) (hd : decode md.2.1 pc = .ok (.bastore, 1)) (hn : pc + 1 = nx) : zAsI 22 2 m pc nx := by
  subst hn
  intro p l e R s mid args below meth cc H locs cells slots Q lsA rest D tys ws A q0 t0 a n cA f i x hF hK hP hD hS he ht hin hX k
  obtain ⟨hx, hb, -⟩ := hF.of hm
  obtain ⟨b, hb2⟩ := hX
  have hz : vp_nar .byte x = x := by
    have : x = b.toInt8.toInt32 := Value.int.inj hb2
    rw [this]; exact pk_vb b
  exact va_bast hx hb hK hP hD hS q0 t0 he ht hin hd (by rw [hz]; exact k)
theorem zrow_castore (hm : zM m = some md) (hd : decode md.2.1 pc = .ok (.castore, 1)) (hn : pc + 1 = nx) : zAsI 23 3 m pc nx := by
  subst hn
  intro p l e R s mid args below meth cc H locs cells slots Q lsA rest D tys ws A q0 t0 a n cA f i x hF hK hP hD hS he ht hin hX k
  obtain ⟨hx, hb, -⟩ := hF.of hm
  obtain ⟨b, hb1, hb2⟩ := hX
  have hz : vp_nar .char x = x := by
    have e : x = nI b := Value.int.inj hb2
    unfold vp_nar
    rw [e, (pk_charN hb1).1]
  exact va_cast hx hb hK hP hD hS q0 t0 he ht hin hd (by rw [hz]; exact k)
theorem zrow_lastore (hm : zM m = some md) (hd : decode md.2.1 pc = .ok (.lastore, 1)) (hn : pc + 1 = nx) : zAsL 21 4 m pc nx := by
  subst hn
  intro p l e R s mid args below meth cc H locs cells slots Q lsA rest D tys ws A q0 t0 a n cA f i x hF hK hP hD hS he ht hin hX k
  obtain ⟨hx, hb, -⟩ := hF.of hm
  exact va_last hx hb hK hP hD hS q0 t0 he ht hin hd k
theorem zrow_dastore (hm : zM m = some md) (hd : decode md.2.1 pc = .ok (.dastore, 1)) (hn : pc + 1 = nx) : zAsD 24 6 m pc nx := by
  subst hn
  intro p l e R s mid args below meth cc H locs cells slots Q lsA rest D tys ws A q0 t0 a n cA f i x hF hK hP hD hS he ht hin hX k
  obtain ⟨hx, hb, -⟩ := hF.of hm
  exact va_dast hx hb hK hP hD hS q0 t0 he ht hin hd k
theorem zset_r {vs : List Nat} {n v j w : Nat} (h : (vs.set n v)[j]? = some w) : (j = n ∧ w = v) ∨ (j ≠ n ∧ vs[j]? = some w) := by
  rw [List.getElem?_set] at h
  by_cases q : n = j
  · subst q
    rw [if_pos rfl] at h
    split at h
    · exact Or.inl ⟨rfl, (Option.some.inj h).symm⟩
    · cases h
  · rw [if_neg q] at h
    exact Or.inr ⟨fun z => q z.symm, h⟩
theorem ok_astI {tg ft : Nat} (htg : tg = 20 ∨ tg = 22 ∨ tg = 23) (hft : ft = 0 ∨ ft = 2 ∨ ft = 3) (row : zAsI tg ft m pc nx) : zOK zPre m pc (s_ast tg ft nx) := by
  intro G ctx ih hG hN hP hI dep ls st h o ho
  obtain ⟨v, t, rfl, h9⟩ := zLs ho
  obtain ⟨i, t, rfl, h8⟩ := zLs h9
  obtain ⟨r, t, rfl, h7⟩ := zLs h8
  obtain ⟨bi, h7⟩ := zB h7
  obtain ⟨b0, h7⟩ := zB h7
  obtain ⟨la, h6⟩ := zcel_s h7
  obtain ⟨b1, h5⟩ := zB h6
  obtain ⟨b2, h5⟩ := zB h5
  obtain ⟨h4, hfit⟩ := zfit_s h5
  obtain ⟨hi, h3⟩ := zls_s h4
  rw [zsetc_s] at h3
  rw [zs4] at la
  rw [zs4, zs4] at h3
  have b1 : (zG h.2.2.2 (Nat.shiftRight r 4)).1 = tg := zbeq b1
  have b2 : Nat.shiftRight i 4 < (zG h.2.2.2 (Nat.shiftRight r 4)).2.1 := zble b2
  rw [zs4] at b1 b2
  rw [zs4] at b2
  obtain ⟨k1, k2⟩ := hI m nx dep ls t _ o h3
  refine ⟨k1, fun p e R s mid args below meth cc H locs cells slots Q ad lsA vals q1 q2 q3 q4 q5 q6 q7 q8 => ?_⟩
  obtain ⟨X, vals, rfl, r1, hvs⟩ := q6.inv
  obtain ⟨I, vals, rfl, ri, hvs1⟩ := hvs.inv
  obtain ⟨Y, vals, rfl, r2, hvs2⟩ := hvs1.inv
  obtain ⟨l1, rfl⟩ := (zr4 (zkq b0) Y).mp r2
  obtain ⟨j, rfl, hj, rfl⟩ := zn0 (zkq bi) ri
  have hXf := hfit _ _ X r1
  have hx : ∃ x : Int32, X = .int x := by
    rcases hft with rfl | rfl | rfl
    · exact hXf
    · obtain ⟨b, e⟩ := hXf; exact ⟨_, e⟩
    · obtain ⟨b, -, e⟩ := hXf; exact ⟨_, e⟩
  obtain ⟨x, rfl⟩ := hx
  obtain ⟨-, -, g3, g4, es, g5⟩ := id q4
  obtain ⟨⟨w0, w1⟩, w2⟩ := g5 _ la
  rw [zq16] at b2
  have hcl : (nI j).toNatClampNeg = j := nI_clamp (by omega)
  rcases w1 with ⟨z, -⟩ | ⟨z, f, hE, hf⟩ | ⟨z, -⟩ | ⟨z, -⟩ | ⟨z, -⟩ | ⟨z, -⟩
  · exfalso; omega
  · have he := (zws_at (ad := ad) (es := es) la).trans (congrArg some (congrArg (Prod.mk _) hE))
    refine row p G.1 e R s mid args below meth cc H locs cells slots Q lsA vals G.2.2.1 _ (zws h.1 ad es) (zA G) (r / 16) (tg - 20) _ _ _ f (nI j) x q1 (zK1 (zK hP q2)) (zws_P fun i hi => (g5 i hi).2) (zws_D g3 g4) q3 he (by first | rw [b1]; exact ztys_at (by omega) (by omega) | (subst htg; exact ztys_at (by omega) (by omega))) (nI_in b2 (by omega)) hXf fun H1 locs1 p1 p2 p3 => ?_
    refine k2 p e R s mid args below meth cc H1 locs1 cells slots Q ad lsA vals q1 q2 p3 (zHR.put (zHRn q4) (fun i hi => (g5 i hi).1) la ⟨w0, Or.inr (Or.inl ⟨by omega, _, rfl, ?_⟩)⟩ p1) q5 hvs2 q7 (q8.step (zle.rf ad) rfl rfl)
    intro j2 w hw
    rw [hcl]
    rcases zset_r hw with ⟨e1, rfl⟩ | ⟨e1, e2⟩
    ·  rw [zq16] at e1
       subst e1
       have : upd f j2 x j2 = x := if_pos rfl
       rw [this]; exact r1
    ·  rw [zq16] at e1
       have : upd f j x j2 = f j2 := if_neg e1
       rw [this]; exact hf j2 w e2
  · exfalso; omega
  · exfalso; omega
  · exfalso; omega
  · exfalso; omega

theorem ok_astL {tg ft : Nat} (htg : tg = 21) (hft : ft = 4) (row : zAsL tg ft m pc nx) : zOK zPre m pc (s_ast tg ft nx) := by
  intro G ctx ih hG hN hP hI dep ls st h o ho
  obtain ⟨v, t, rfl, h9⟩ := zLs ho
  obtain ⟨i, t, rfl, h8⟩ := zLs h9
  obtain ⟨r, t, rfl, h7⟩ := zLs h8
  obtain ⟨bi, h7⟩ := zB h7
  obtain ⟨b0, h7⟩ := zB h7
  obtain ⟨la, h6⟩ := zcel_s h7
  obtain ⟨b1, h5⟩ := zB h6
  obtain ⟨b2, h5⟩ := zB h5
  obtain ⟨h4, hfit⟩ := zfit_s h5
  obtain ⟨hi, h3⟩ := zls_s h4
  rw [zsetc_s] at h3
  rw [zs4] at la
  rw [zs4, zs4] at h3
  have b1 : (zG h.2.2.2 (Nat.shiftRight r 4)).1 = tg := zbeq b1
  have b2 : Nat.shiftRight i 4 < (zG h.2.2.2 (Nat.shiftRight r 4)).2.1 := zble b2
  rw [zs4] at b1 b2
  rw [zs4] at b2
  obtain ⟨k1, k2⟩ := hI m nx dep ls t _ o h3
  refine ⟨k1, fun p e R s mid args below meth cc H locs cells slots Q ad lsA vals q1 q2 q3 q4 q5 q6 q7 q8 => ?_⟩
  obtain ⟨X, vals, rfl, r1, hvs⟩ := q6.inv
  obtain ⟨I, vals, rfl, ri, hvs1⟩ := hvs.inv
  obtain ⟨Y, vals, rfl, r2, hvs2⟩ := hvs1.inv
  obtain ⟨l1, rfl⟩ := (zr4 (zkq b0) Y).mp r2
  obtain ⟨j, rfl, hj, rfl⟩ := zn0 (zkq bi) ri
  have hXf := hfit _ _ X r1
  have hx : ∃ x : Int64, X = .long x := by subst hft; exact hXf
  obtain ⟨x, rfl⟩ := hx
  obtain ⟨-, -, g3, g4, es, g5⟩ := id q4
  obtain ⟨⟨w0, w1⟩, w2⟩ := g5 _ la
  rw [zq16] at b2
  have hcl : (nI j).toNatClampNeg = j := nI_clamp (by omega)
  rcases w1 with ⟨z, -⟩ | ⟨z, -⟩ | ⟨z, f, hE, hf⟩ | ⟨z, -⟩ | ⟨z, -⟩ | ⟨z, -⟩
  · exfalso; omega
  · exfalso; omega
  · have he := (zws_at (ad := ad) (es := es) la).trans (congrArg some (congrArg (Prod.mk _) hE))
    refine row p G.1 e R s mid args below meth cc H locs cells slots Q lsA vals G.2.2.1 _ (zws h.1 ad es) (zA G) (r / 16) (tg - 20) _ _ _ f (nI j) x q1 (zK1 (zK hP q2)) (zws_P fun i hi => (g5 i hi).2) (zws_D g3 g4) q3 he (by first | rw [b1]; exact ztys_at (by omega) (by omega) | (subst htg; exact ztys_at (by omega) (by omega))) (nI_in b2 (by omega)) hXf fun H1 locs1 p1 p2 p3 => ?_
    refine k2 p e R s mid args below meth cc H1 locs1 cells slots Q ad lsA vals q1 q2 p3 (zHR.put (zHRn q4) (fun i hi => (g5 i hi).1) la ⟨w0, Or.inr (Or.inr (Or.inl ⟨by omega, _, by rfl, ?_⟩))⟩ p1) q5 hvs2 q7 (q8.step (zle.rf ad) rfl rfl)
    intro j2 w hw
    rw [hcl]
    rcases zset_r hw with ⟨e1, rfl⟩ | ⟨e1, e2⟩
    ·  rw [zq16] at e1
       subst e1
       have : vp_updL f j2 x j2 = x := if_pos rfl
       rw [this]; exact r1
    ·  rw [zq16] at e1
       have : vp_updL f j x j2 = f j2 := if_neg e1
       rw [this]; exact hf j2 w e2
  · exfalso; omega
  · exfalso; omega
  · exfalso; omega

theorem ok_astD {tg ft : Nat} (htg : tg = 24) (hft : ft = 6) (row : zAsD tg ft m pc nx) : zOK zPre m pc (s_ast tg ft nx) := by
  intro G ctx ih hG hN hP hI dep ls st h o ho
  obtain ⟨v, t, rfl, h9⟩ := zLs ho
  obtain ⟨i, t, rfl, h8⟩ := zLs h9
  obtain ⟨r, t, rfl, h7⟩ := zLs h8
  obtain ⟨bi, h7⟩ := zB h7
  obtain ⟨b0, h7⟩ := zB h7
  obtain ⟨la, h6⟩ := zcel_s h7
  obtain ⟨b1, h5⟩ := zB h6
  obtain ⟨b2, h5⟩ := zB h5
  obtain ⟨h4, hfit⟩ := zfit_s h5
  obtain ⟨hi, h3⟩ := zls_s h4
  rw [zsetc_s] at h3
  rw [zs4] at la
  rw [zs4, zs4] at h3
  have b1 : (zG h.2.2.2 (Nat.shiftRight r 4)).1 = tg := zbeq b1
  have b2 : Nat.shiftRight i 4 < (zG h.2.2.2 (Nat.shiftRight r 4)).2.1 := zble b2
  rw [zs4] at b1 b2
  rw [zs4] at b2
  obtain ⟨k1, k2⟩ := hI m nx dep ls t _ o h3
  refine ⟨k1, fun p e R s mid args below meth cc H locs cells slots Q ad lsA vals q1 q2 q3 q4 q5 q6 q7 q8 => ?_⟩
  obtain ⟨X, vals, rfl, r1, hvs⟩ := q6.inv
  obtain ⟨I, vals, rfl, ri, hvs1⟩ := hvs.inv
  obtain ⟨Y, vals, rfl, r2, hvs2⟩ := hvs1.inv
  obtain ⟨l1, rfl⟩ := (zr4 (zkq b0) Y).mp r2
  obtain ⟨j, rfl, hj, rfl⟩ := zn0 (zkq bi) ri
  have hXf := hfit _ _ X r1
  have hx : ∃ x : UInt64, X = .double x := by subst hft; exact hXf
  obtain ⟨x, rfl⟩ := hx
  obtain ⟨-, -, g3, g4, es, g5⟩ := id q4
  obtain ⟨⟨w0, w1⟩, w2⟩ := g5 _ la
  rw [zq16] at b2
  have hcl : (nI j).toNatClampNeg = j := nI_clamp (by omega)
  rcases w1 with ⟨z, -⟩ | ⟨z, -⟩ | ⟨z, -⟩ | ⟨z, f, hE, hf⟩ | ⟨z, -⟩ | ⟨z, -⟩
  · exfalso; omega
  · exfalso; omega
  · exfalso; omega
  · have he := (zws_at (ad := ad) (es := es) la).trans (congrArg some (congrArg (Prod.mk _) hE))
    refine row p G.1 e R s mid args below meth cc H locs cells slots Q lsA vals G.2.2.1 _ (zws h.1 ad es) (zA G) (r / 16) (tg - 20) _ _ _ f (nI j) x q1 (zK1 (zK hP q2)) (zws_P fun i hi => (g5 i hi).2) (zws_D g3 g4) q3 he (by first | rw [b1]; exact ztys_at (by omega) (by omega) | (subst htg; exact ztys_at (by omega) (by omega))) (nI_in b2 (by omega)) hXf fun H1 locs1 p1 p2 p3 => ?_
    refine k2 p e R s mid args below meth cc H1 locs1 cells slots Q ad lsA vals q1 q2 p3 (zHR.put (zHRn q4) (fun i hi => (g5 i hi).1) la ⟨w0, Or.inr (Or.inr (Or.inr (Or.inl ⟨by omega, _, by rfl, ?_⟩)))⟩ p1) q5 hvs2 q7 (q8.step (zle.rf ad) rfl rfl)
    intro j2 w hw
    rw [hcl]
    rcases zset_r hw with ⟨e1, rfl⟩ | ⟨e1, e2⟩
    ·  rw [zq16] at e1
       subst e1
       have : vf_upd f j2 x j2 = x := if_pos rfl
       rw [this]; exact r1
    ·  rw [zq16] at e1
       have : vf_upd f j x j2 = f j2 := if_neg e1
       rw [this]; exact hf j2 w e2
  · exfalso; omega
  · exfalso; omega

end Stores
