section Jumps
variable {Pre : zgl → zctx → Prop} {m pc nx : Nat} {md : zMD}
-- references
theorem zc01 {c : Nat} {x y : zR} {o : zo} (h : @Nat.rec (fun _ => zR) x (fun _ _ => y) c = some o) : (c = 0 ∧ x = some o) ∨ (c ≠ 0 ∧ y = some o) := by
  cases c with
  | zero => exact Or.inl ⟨rfl, h⟩
  | succ j => exact Or.inr ⟨Nat.succ_ne_zero j, h⟩
def zNlRow (c m pc t nx : Nat) : Prop := ∀ (p : Program) (l : Launch) (e : Env) (R : Room) (s : State) (mid : MethodId) (args : Array Value) (below : List Frame) (meth : Method) (cc : Code) (H : Heap) (locs : List Loc) (cells slots : Nat) (Q : State → Prop) (lsA : Array Slot) (rest : List Value), zF m p s mid args meth cc → (W p l e R s mid args below meth cc H locs cells slots Q (F0 mid (if c = 0 then t else nx) lsA rest) → W p l e R s mid args below meth cc H locs cells slots Q (F0 mid pc lsA (.null :: rest))) ∧ ∀ x, W p l e R s mid args below meth cc H locs cells slots Q (F0 mid (if c = 0 then nx else t) lsA rest) → W p l e R s mid args below meth cc H locs cells slots Q (F0 mid pc lsA (.ref x :: rest))
theorem ok_nl0 {c t : Nat} (row : zNlRow c m pc t nx) : zOK Pre m pc (s_nl c t nx) := by
  refine zOK.pure fun G ctx ih dep ls st h o hG hN hP ho => ?_
  obtain ⟨x, r, rfl, ho⟩ := zLs ho
  rcases zBc ho with ⟨b1, ho⟩ | ⟨-, ho⟩
  · have b1 := zbeq b1
    have ho : ih m (if c = 0 then t else nx) dep ls r h = some o := by
      rcases zc01 ho with ⟨w, ho⟩ | ⟨w, ho⟩
      · rw [if_pos w]; exact ho
      · rw [if_neg w]; exact ho
    refine ⟨_, _, ho, fun ad vals hv => ?_⟩
    obtain ⟨X, vals, rfl, r1, hv⟩ := hv.inv
    have r1 : X = .null := (zr5 (by rw [b1]) X).mp r1
    refine ⟨vals, hv, fun p l e R s mid args below meth cc H locs cells slots Q lsA hF k => ?_⟩
    rw [r1]
    exact (row p l e R s mid args below meth cc H locs cells slots Q lsA vals hF).1 k
  · obtain ⟨b2, ho⟩ := zB ho
    have b2 := zkq b2
    have ho : ih m (if c = 0 then nx else t) dep ls r h = some o := by
      rcases zc01 ho with ⟨w, ho⟩ | ⟨w, ho⟩
      · rw [if_pos w]; exact ho
      · rw [if_neg w]; exact ho
    refine ⟨_, _, ho, fun ad vals hv => ?_⟩
    obtain ⟨X, vals, rfl, r1, hv⟩ := hv.inv
    obtain ⟨-, r1⟩ := (zr4 b2 X).mp r1
    refine ⟨vals, hv, fun p l e R s mid args below meth cc H locs cells slots Q lsA hF k => ?_⟩
    rw [r1]
    exact (row p l e R s mid args below meth cc H locs cells slots Q lsA vals hF).2 _ k
theorem ok_ifnull {off : Int} {t : Nat} (hm : zM m = some md) (hd : decode md.2.1 pc = .ok (.ifnull off, 3)) (ht : (pc : Int) + off = (t : Int)) (hn : pc + 3 = nx) : zOK Pre m pc (s_nl 0 t nx) := by
  subst hn
  refine ok_nl0 fun p l e R s mid args below meth cc H locs cells slots Q lsA rest hF => ?_
  obtain ⟨hx, hb, -⟩ := hF.of hm
  exact ⟨fun k => lv_ifnullN hx hb hd ht k, fun x k => lv_ifnull hx hb hd k⟩
theorem ok_ifnonnull {off : Int} {t : Nat} (hm : zM m = some md) (hd : decode md.2.1 pc = .ok (.ifnonnull off, 3)) (ht : (pc : Int) + off = (t : Int)) (hn : pc + 3 = nx) : zOK Pre m pc (s_nl 1 t nx) := by
  subst hn
  refine ok_nl0 fun p l e R s mid args below meth cc H locs cells slots Q lsA rest hF => ?_
  obtain ⟨hx, hb, -⟩ := hF.of hm
  exact ⟨fun k => lv_ifnonnullN hx hb hd k, fun x k => lv_ifnonnull hx hb hd ht k⟩
def zAcRow (c m pc t nx : Nat) : Prop := ∀ (p : Program) (l : Launch) (e : Env) (R : Room) (s : State) (mid : MethodId) (args : Array Value) (below : List Frame) (meth : Method) (cc : Code) (H : Heap) (locs : List Loc) (cells slots : Nat) (Q : State → Prop) (lsA : Array Slot) (rest : List Value) (a b : Nat), zF m p s mid args meth cc → (a = b → W p l e R s mid args below meth cc H locs cells slots Q (F0 mid (if c = 0 then t else nx) lsA rest)) → (a ≠ b → W p l e R s mid args below meth cc H locs cells slots Q (F0 mid (if c = 0 then nx else t) lsA rest)) → W p l e R s mid args below meth cc H locs cells slots Q (F0 mid pc lsA (.ref b :: .ref a :: rest))
theorem zmask' {ms v : Nat} {k : zR} {o : zo} (h : @Nat.rec (fun _ => zR) none (fun _ _ => k) (Nat.land (Nat.shiftRight ms (Nat.land v 15)) 1) = some o) : (ms >>> (v % 16)) &&& 1 ≠ 0 ∧ k = some o := by
  rcases zc01 h with ⟨-, h⟩ | ⟨w, h⟩
  · cases h
  · rw [zl15] at w
    exact ⟨w, h⟩
theorem zkindX {v : Nat} (h : (80 >>> (v % 16)) &&& 1 ≠ 0) : v % 16 = 4 ∨ v % 16 = 6 :=
  (by decide : ∀ k, k < 16 → (80 >>> k) &&& 1 ≠ 0 → k = 4 ∨ k = 6) (v % 16) (Nat.mod_lt _ (by decide)) h
theorem ok_ac0 {c t : Nat} (row : zAcRow c m pc t nx) : zOK Pre m pc (s_ac c t nx) := by
  intro G ctx ih hG hN hP hI dep ls st h o ho
  obtain ⟨y, r, rfl, ho⟩ := zLs ho
  obtain ⟨x, r, rfl, ho⟩ := zLs ho
  rcases zBc ho with ⟨b3, h9⟩ | ⟨b3, h9⟩
  · have b3 := zbeq b3
    obtain ⟨b1, h9⟩ := zmask' h9
    have h9 : ih m (if c = 0 then t else nx) dep ls r h = some o := by
      rcases zc01 h9 with ⟨w, ho⟩ | ⟨w, ho⟩
      · rw [if_pos w]; exact ho
      · rw [if_neg w]; exact ho
    obtain ⟨h3, h4⟩ := hI m _ dep ls r h o h9
    refine ⟨h3, fun p e R s mid args below meth c H locs cells slots Q ad lsA vals q1 q2 q3 q4 q5 q6 q7 q8 => ?_⟩
    obtain ⟨Y, vals, rfl, r2, hv⟩ := q6.inv
    obtain ⟨X, vals, rfl, r1, hv2⟩ := hv.inv
    have k := h4 p e R s mid args below meth c H locs cells slots Q ad lsA vals q1 q2 q3 q4 q5 hv2 q7 q8
    rw [← b3] at r2
    have hXY : ∃ a, X = .ref a ∧ Y = .ref a := by
      rcases zkindX b1 with z | z
      · exact ⟨_, ((zr4 z X).mp r1).2, ((zr4 z Y).mp r2).2⟩
      · exact ⟨_, (zr6 z X).mp r1, (zr6 z Y).mp r2⟩
    obtain ⟨a, rfl, rfl⟩ := hXY
    exact row p G.1 e R s mid args below meth c H locs cells slots Q lsA vals _ _ q1 (fun _ => k) (fun w => absurd rfl w)
  · have b3 := znbeq b3
    obtain ⟨b1, h9⟩ := zB h9
    obtain ⟨b2, h9⟩ := zB h9
    have b1 := zkq b1
    have b2 := zkq b2
    have h9 : ih m (if c = 0 then nx else t) dep ls r h = some o := by
      rcases zc01 h9 with ⟨w, ho⟩ | ⟨w, ho⟩
      · rw [if_pos w]; exact ho
      · rw [if_neg w]; exact ho
    obtain ⟨h3, h4⟩ := hI m _ dep ls r h o h9
    refine ⟨h3, fun p e R s mid args below meth c H locs cells slots Q ad lsA vals q1 q2 q3 q4 q5 q6 q7 q8 => ?_⟩
    obtain ⟨Y, vals, rfl, r2, hv⟩ := q6.inv
    obtain ⟨X, vals, rfl, r1, hv2⟩ := hv.inv
    obtain ⟨l1, rfl⟩ := (zr4 b1 X).mp r1
    obtain ⟨l2, rfl⟩ := (zr4 b2 Y).mp r2
    have k := h4 p e R s mid args below meth c H locs cells slots Q ad lsA vals q1 q2 q3 q4 q5 hv2 q7 q8
    refine row p G.1 e R s mid args below meth c H locs cells slots Q lsA vals _ _ q1 (fun w => ?_) (fun _ => k)
    have := q4.2.2.1 _ _ (by rw [← q4.1]; exact l1) (by rw [← q4.1]; exact l2) w
    exact absurd (by omega) b3
theorem zsomeI {a b : Nat} : (some a : Option Nat) = some b ↔ a = b := ⟨fun h => Option.some.inj h, fun h => by rw [h]⟩
theorem ok_acmp_eq {off : Int} {t : Nat} (hm : zM m = some md) (hd : decode md.2.1 pc = .ok (.if_acmp .eq off, 3)) (ht : (pc : Int) + off = (t : Int)) (hn : pc + 3 = nx) : zOK Pre m pc (s_ac 0 t nx) := by
  subst hn
  refine ok_ac0 fun p l e R s mid args below meth cc H locs cells slots Q lsA rest a b hF k1 k2 => ?_
  obtain ⟨hx, hb, -⟩ := hF.of hm
  exact lv_acmp_eq (rx := some a) (ry := some b) hx hb hd ht (fun w => k1 (zsomeI.mp w)) (fun w => k2 fun z => w (zsomeI.mpr z))
theorem ok_acmp_ne {off : Int} {t : Nat} (hm : zM m = some md) (hd : decode md.2.1 pc = .ok (.if_acmp .ne off, 3)) (ht : (pc : Int) + off = (t : Int)) (hn : pc + 3 = nx) : zOK Pre m pc (s_ac 1 t nx) := by
  subst hn
  refine ok_ac0 fun p l e R s mid args below meth cc H locs cells slots Q lsA rest a b hF k1 k2 => ?_
  obtain ⟨hx, hb, -⟩ := hF.of hm
  exact lv_acmp_ne (rx := some a) (ry := some b) hx hb hd ht (fun w => k2 fun z => w (zsomeI.mpr z)) (fun w => k1 (zsomeI.mp w))
-- switches
def zswt (d : Nat) (i : Int32) : List (Nat × Nat) → Nat
  | [] => d
  | (n, t) :: r => if i = nI (n / 16) then t else zswt d i r
def zswg (l : List (Nat × Nat)) : Prop := ∀ q ∈ l, q.1 % 16 = 0 ∧ q.1 / 16 < 4294967296
theorem zsw_s {nt x d : Nat} {k : Nat → zR} {o : zo} : ∀ {l : List (Nat × Nat)}, zswg l → zsw nt x d k l = some o → ∃ t, k t = some o ∧ ∀ (E : zen) (ad : zam) (i : Int32), zEok E → E.2.2.2 = nt → zrel E ad x (.int i) → zswt d i l = t := by
  intro l
  induction l with
  | nil => exact fun _ h => ⟨d, h, fun _ _ _ _ _ _ => rfl⟩
  | cons q r ih =>
    intro hg h
    obtain ⟨n, t⟩ := q
    obtain ⟨g1, g2⟩ := hg (n, t) (by simp)
    have g1 : n % 16 = 0 := g1
    have g2 : n / 16 < 4294967296 := g2
    have hg' : zswg r := fun q hq => hg q (by simp [hq])
    rcases zBc h with ⟨b1, h⟩ | ⟨-, h⟩
    · have b1 := zkq b1
      rcases zBc h with ⟨b2, h⟩ | ⟨b2, h⟩
      · have b2 := zbeq b2
        refine ⟨t, h, fun E ad i hG hn r1 => ?_⟩
        obtain ⟨a, e, ha, e2⟩ := zn0 b1 r1
        cases e2
        show (if _ then _ else _) = _
        rw [if_pos (by congr 1; omega)]
      · have b2 := znbeq b2
        obtain ⟨t', h1, h2⟩ := ih hg' h
        refine ⟨t', h1, fun E ad i hG hn r1 => ?_⟩
        rw [← h2 E ad i hG hn r1]
        obtain ⟨a, e, ha, e2⟩ := zn0 b1 r1
        cases e2
        show (if _ then _ else _) = _
        rw [if_neg]
        intro w
        have := congrArg (fun z : Int32 => z.toBitVec.toNat) w
        simp only [pk_tn (show a < 2 ^ 32 by omega), pk_tn (show n / 16 < 2 ^ 32 by omega)] at this
        omega
    · obtain ⟨q, hq, h, hX⟩ := zcmp_s h
      have key : ∀ (E : zen) (ad : zam) (i : Int32), zEok E → E.2.2.2 = nt → zrel E ad x (.int i) → zkn q (zbi i) (zbi (nI (n / 16))) := fun E ad i hG hn r1 => by
        obtain ⟨i', j, e1, e2, e3⟩ := hX E ad (.int i) (.int (nI (n / 16))) hG hn r1 ((zr0 g1 _).mpr ⟨g2, rfl⟩)
        cases e1
        cases e2
        exact e3
      rcases zdec_s (c := 0) (by decide) hq h with ⟨h, hz⟩ | ⟨h, hz⟩
      · refine ⟨t, h, fun E ad i hG hn r1 => ?_⟩
        have w : zbi i = zbi (nI (n / 16)) := hz _ _ (key E ad i hG hn r1)
        show (if _ then _ else _) = _
        rw [if_pos (zbi_inj w)]
      · obtain ⟨t', h1, h2⟩ := ih hg' h
        refine ⟨t', h1, fun E ad i hG hn r1 => ?_⟩
        rw [← h2 E ad i hG hn r1]
        have w : ¬ zbi i = zbi (nI (n / 16)) := hz _ _ (key E ad i hG hn r1)
        show (if _ then _ else _) = _
        rw [if_neg (fun z => w (by rw [z]))]
theorem zkindS {v : Nat} (h : (11 >>> (v % 16)) &&& 1 ≠ 0) : v % 16 = 0 ∨ v % 16 = 1 ∨ v % 16 = 3 :=
  (by decide : ∀ k, k < 16 → (11 >>> k) &&& 1 ≠ 0 → k = 0 ∨ k = 1 ∨ k = 3) (v % 16) (Nat.mod_lt _ (by decide)) h
def zSwRow (ps : List (Nat × Nat)) (d m pc : Nat) : Prop := ∀ (p : Program) (l : Launch) (e : Env) (R : Room) (s : State) (mid : MethodId) (args : Array Value) (below : List Frame) (meth : Method) (cc : Code) (H : Heap) (locs : List Loc) (cells slots : Nat) (Q : State → Prop) (lsA : Array Slot) (i : Int32) (rest : List Value), zF m p s mid args meth cc → W p l e R s mid args below meth cc H locs cells slots Q (F0 mid (zswt d i ps) lsA rest) → W p l e R s mid args below meth cc H locs cells slots Q (F0 mid pc lsA (.int i :: rest))
theorem ok_sw0 {ps : List (Nat × Nat)} {d : Nat} (hg : zswg ps) (row : zSwRow ps d m pc) : zOK Pre m pc (s_sw ps d) := by
  refine zOK.pure fun G ctx ih dep ls st h o hG hN hP ho => ?_
  obtain ⟨x, r, rfl, ho⟩ := zLs ho
  obtain ⟨b1, ho⟩ := zmask' ho
  obtain ⟨t, ho, ht⟩ := zsw_s hg ho
  refine ⟨t, r, ho, fun ad vals hv => ?_⟩
  obtain ⟨X, vals, rfl, r1, hv1⟩ := hv.inv
  obtain ⟨i, rfl⟩ := zint (by rcases zkindS b1 with z | z | z <;> simp [z]) r1
  refine ⟨vals, hv1, fun p l e R s mid args below meth cc H locs cells slots Q lsA hF k => ?_⟩
  rw [← ht G.2.1 ad i hG hN r1] at k
  exact row p l e R s mid args below meth cc H locs cells slots Q lsA i vals hF k
/-- a table's places -/
def zstab (pc : Nat) : Int → List (Nat × Nat) → List Int → Bool
  | _, [], [] => true
  | lo, (n, t) :: ps, o :: os => n % 16 == 0 && decide (n / 16 < 4294967296) && (nI (n / 16)).toInt == lo && (pc : Int) + o == (t : Int) && zstab pc (lo + 1) ps os
  | _, _, _ => false
theorem zstab_g {pc : Nat} : ∀ {lo : Int} {ps : List (Nat × Nat)} {os : List Int}, zstab pc lo ps os = true → zswg ps := by
  intro lo ps
  induction ps generalizing lo with
  | nil => intro os _ q hq; cases hq
  | cons p r ih =>
    intro os h
    cases os with
    | nil => obtain ⟨n, t⟩ := p; cases h
    | cons o os =>
      obtain ⟨n, t⟩ := p
      simp only [zstab, Bool.and_eq_true, beq_iff_eq, decide_eq_true_eq] at h
      obtain ⟨⟨⟨⟨h1, h2⟩, h3⟩, h4⟩, h5⟩ := h
      intro q hq
      rcases List.mem_cons.mp hq with rfl | hq
      · exact ⟨h1, h2⟩
      · exact ih h5 q hq
theorem zstab_s {pc d : Nat} : ∀ {lo : Int} {ps : List (Nat × Nat)} {os : List Int}, zstab pc lo ps os = true → ∀ i : Int32, (i.toInt < lo ∨ lo + os.length ≤ i.toInt → zswt d i ps = d) ∧ (lo ≤ i.toInt → i.toInt < lo + os.length → ∃ off, os[(i.toInt - lo).toNat]? = some off ∧ (pc : Int) + off = (zswt d i ps : Int)) := by
  intro lo ps
  induction ps generalizing lo with
  | nil =>
    intro os h i
    cases os with
    | nil => exact ⟨fun _ => rfl, fun h1 h2 => by simp at h2; omega⟩
    | cons o os => cases h
  | cons p r ih =>
    intro os h i
    obtain ⟨n, t⟩ := p
    cases os with
    | nil => cases h
    | cons o os =>
      simp only [zstab, Bool.and_eq_true, beq_iff_eq, decide_eq_true_eq] at h
      obtain ⟨⟨⟨⟨h1, h2⟩, h3⟩, h4⟩, h5⟩ := h
      obtain ⟨k1, k2⟩ := ih h5 i
      have e : zswt d i ((n, t) :: r) = if i = nI (n / 16) then t else zswt d i r := rfl
      rw [e]
      by_cases w : i = nI (n / 16)
      · rw [if_pos w, w, h3]
        refine ⟨fun z => ?_, fun z1 z2 => ⟨o, by simp, h4⟩⟩
        simp only [List.length_cons] at z; omega
      · rw [if_neg w]
        have w' : i.toInt ≠ lo := fun z => w (Int32.toInt_inj.mp (by rw [z, h3]))
        refine ⟨fun z => k1 ?_, fun z1 z2 => ?_⟩
        · simp only [List.length_cons] at z; omega
        · simp only [List.length_cons] at z2
          obtain ⟨off, q1, q2⟩ := k2 (by omega) (by omega)
          refine ⟨off, ?_, q2⟩
          rw [show (i.toInt - lo).toNat = (i.toInt - (lo + 1)).toNat + 1 by omega, List.getElem?_cons_succ]
          exact q1
theorem ok_table {dflt lo hi : Int} {offs : Array Int} {len d : Nat} {ps : List (Nat × Nat)} (hm : zM m = some md) (hd : decode md.2.1 pc = .ok (.tableswitch dflt lo hi offs, len)) (ht : (pc : Int) + dflt = (d : Int)) (hh : lo + offs.toList.length = hi + 1) (hs : zstab pc lo ps offs.toList = true) : zOK Pre m pc (s_sw ps d) := by
  refine ok_sw0 (zstab_g hs) fun p l e R s mid args below meth cc H locs cells slots Q lsA i rest hF k => ?_
  obtain ⟨hx, hb, -⟩ := hF.of hm
  obtain ⟨k1, k2⟩ := zstab_s (d := d) hs i
  by_cases w : i.toInt < lo ∨ hi < i.toInt
  · rw [k1 (by omega)] at k
    exact lv_tableOut hx hb hd w ht k
  · obtain ⟨off, q1, q2⟩ := k2 (by omega) (by omega)
    exact lv_tableIn hx hb hd (by omega) (by omega) (by simpa using q1) q2 k
/-- a list's places -/
def zslk (pc : Nat) : List (Nat × Nat) → List (Int × Int) → Bool
  | [], [] => true
  | (n, t) :: ps, (a, o) :: os => n % 16 == 0 && decide (n / 16 < 4294967296) && (nI (n / 16)).toInt == a && (pc : Int) + o == (t : Int) && zslk pc ps os
  | _, _ => false
theorem zslk_s {pc d : Nat} {dflt : Int} (ht : (pc : Int) + dflt = (d : Int)) : ∀ {ps : List (Nat × Nat)} {os : List (Int × Int)}, zslk pc ps os = true → zswg ps ∧ ∀ i : Int32, (pc : Int) + Op.lookupswitch.offset os dflt i.toInt = (zswt d i ps : Int) := by
  intro ps
  induction ps with
  | nil =>
    intro os h
    cases os with
    | nil => exact ⟨fun q hq => (nomatch hq), fun i => ht⟩
    | cons o os => cases h
  | cons p r ih =>
    intro os h
    obtain ⟨n, t⟩ := p
    cases os with
    | nil => cases h
    | cons o os =>
      obtain ⟨a, o⟩ := o
      simp only [zslk, Bool.and_eq_true, beq_iff_eq, decide_eq_true_eq] at h
      obtain ⟨⟨⟨⟨h1, h2⟩, h3⟩, h4⟩, h5⟩ := h
      obtain ⟨k1, k2⟩ := ih h5
      refine ⟨fun q hq => ?_, fun i => ?_⟩
      · rcases List.mem_cons.mp hq with rfl | hq
        · exact ⟨h1, h2⟩
        · exact k1 q hq
      · rw [Op.lookupswitch.offset_cons]
        have e : zswt d i ((n, t) :: r) = if i = nI (n / 16) then t else zswt d i r := rfl
        rw [e]
        by_cases w : i = nI (n / 16)
        · rw [if_pos w, if_pos (by rw [w, h3]), h4]
        · rw [if_neg w, if_neg (fun z => w (Int32.toInt_inj.mp (by rw [h3, z])))]
          exact k2 i
theorem ok_lookup {dflt : Int} {os : Array (Int × Int)} {len d : Nat} {ps : List (Nat × Nat)} (hm : zM m = some md) (hd : decode md.2.1 pc = .ok (.lookupswitch dflt os, len)) (ht : (pc : Int) + dflt = (d : Int)) (hp : (os.toList.zip (os.toList.drop 1)).all (fun (a, next) => a.1 < next.1) = true) (hs : zslk pc ps os.toList = true) : zOK Pre m pc (s_sw ps d) := by
  obtain ⟨k1, k2⟩ := zslk_s ht hs
  refine ok_sw0 k1 fun p l e R s mid args below meth cc H locs cells slots Q lsA i rest hF k => ?_
  obtain ⟨hx, hb, -⟩ := hF.of hm
  exact lv_lookup hx hb hd hp rfl (k2 i) k
-- two longs
theorem zlcb (m : Nat) : Nat.mod (Nat.add 147573952589676412928 (16 * m + 2)) 295147905179352825856 = 16 * ((m + 9223372036854775808) % 18446744073709551616) + 2 := by
  rw [zmd, Nat.add_eq]; omega
theorem zlcr {x y : Int64} {r : Int32} (h : lg_cmp x y = r) : True := trivial
theorem ok_lcmp (hm : zM m = some md) (hd : decode md.2.1 pc = .ok (.lcmp, 1)) (hn : pc + 1 = nx) : zOK Pre m pc (s_lcmp nx) := by
  subst hn
  refine zOK.pure fun G ctx ih dep ls st h o hG hN hP ho => ?_
  obtain ⟨y, t, rfl, ho⟩ := zLs ho
  obtain ⟨x, t, rfl, ho⟩ := zLs ho
  have fin : ∀ q, ih m (pc + 1) dep ls (q :: t) h = some o → (∀ ad X Y, zrel G.2.1 ad x X → zrel G.2.1 ad y Y → ∃ a b, X = .long a ∧ Y = .long b ∧ zrel G.2.1 ad q (.int (lg_cmp a b))) → ∃ pc' st', ih m pc' dep ls st' h = some o ∧ ∀ (ad : zam) (vals : List Value), zall G.2.1 ad (y :: x :: t) vals → ∃ vals', zall G.2.1 ad st' vals' ∧ zStep m pc vals pc' vals' := fun q ho hX => by
    refine ⟨pc + 1, q :: t, ho, fun ad vals hv => ?_⟩
    obtain ⟨Y, vals, rfl, r2, hv1⟩ := hv.inv
    obtain ⟨X, vals, rfl, r1, hv2⟩ := hv1.inv
    obtain ⟨a, b, rfl, rfl, hz⟩ := hX ad X Y r1 r2
    refine ⟨_, zall.cons hz hv2, fun p l e R s mid args below meth cc H locs cells slots Q lsA hF k => ?_⟩
    obtain ⟨hx, hb, -⟩ := hF.of hm
    exact W.lcmp hx hb hd k
  obtain ⟨b1, ho⟩ := zB ho
  have b1 : y % 16 = 2 := zkq b1
  obtain ⟨b, rfl⟩ : ∃ b, y = 16 * b + 2 := ⟨y / 16, by omega⟩
  rcases zBc ho with ⟨b2, ho⟩ | ⟨-, ho⟩
  · have b2 : x % 16 = 2 := zkq b2
    obtain ⟨a, rfl⟩ : ∃ b, x = 16 * b + 2 := ⟨x / 16, by omega⟩
    have hz : ∀ ad X Y, zrel G.2.1 ad (16 * a + 2) X → zrel G.2.1 ad (16 * b + 2) Y → X = .long (lN a) ∧ Y = .long (lN b) ∧ zbl (lN a) = (a + 9223372036854775808) % 18446744073709551616 ∧ zbl (lN b) = (b + 9223372036854775808) % 18446744073709551616 := fun ad X Y r1 r2 => by
      obtain ⟨a', e1, ha, rfl⟩ := zn2 b2 r1
      obtain ⟨b', e2, hb, rfl⟩ := zn2 b1 r2
      obtain rfl : a = a' := by omega
      obtain rfl : b = b' := by omega
      exact ⟨rfl, rfl, zbl_lN ha, zbl_lN hb⟩
    have n1 : (-1 : Int32) = nI 4294967295 := by decide +kernel
    have n2 : (1 : Int32) = nI 1 := rfl
    rcases zBc ho with ⟨b3, ho⟩ | ⟨b3, ho⟩
    · have b3 := zbeq b3
      rw [zlcb, zlcb] at b3
      refine fin 0 ho fun ad X Y r1 r2 => ?_
      obtain ⟨e1, e2, e3, e4⟩ := hz ad X Y r1 r2
      refine ⟨_, _, e1, e2, ?_⟩
      rw [zlgc, e3, e4, if_neg (by omega), if_pos (by omega), ← nI_0]
      exact zn0' (a := 0) (by decide)
    · have b3 := znbeq b3
      rw [zlcb, zlcb] at b3
      rcases zBc ho with ⟨b4, ho⟩ | ⟨b4, ho⟩
      · have b4 := zble b4
        rw [zlcb, zlcb] at b4
        refine fin (16 * 4294967295) ho fun ad X Y r1 r2 => ?_
        obtain ⟨e1, e2, e3, e4⟩ := hz ad X Y r1 r2
        refine ⟨_, _, e1, e2, ?_⟩
        rw [zlgc, e3, e4, if_neg (by omega), if_neg (by omega), n1]
        exact zn0' (by decide)
      · have b4 := znble b4
        rw [zlcb, zlcb] at b4
        refine fin (16 * 1) ho fun ad X Y r1 r2 => ?_
        obtain ⟨e1, e2, e3, e4⟩ := hz ad X Y r1 r2
        refine ⟨_, _, e1, e2, ?_⟩
        rw [zlgc, e3, e4, if_pos (by omega), n2]
        exact zn0' (by decide)
  rcases zBc ho with ⟨b2, ho⟩ | ⟨-, ho⟩
  · have b2 : x % 16 = 11 := zkq b2
    have hz : ∀ ad X Y, zrel G.2.1 ad x X → zrel G.2.1 ad (16 * b + 2) Y → ∃ i : Int32, X = .long i.toInt64 ∧ Y = .long (lN b) ∧ zlo x + 9223372034707292160 ≤ zbl i.toInt64 ∧ zbl i.toInt64 ≤ zhi x + 9223372034707292160 ∧ zbl (lN b) = (b + 9223372036854775808) % 18446744073709551616 := fun ad X Y r1 r2 => by
      obtain ⟨i, rfl, w1, w2⟩ := (zr11 b2 X).mp r1
      obtain ⟨b', e2, hb, rfl⟩ := zn2 b1 r2
      obtain rfl : b = b' := by omega
      exact ⟨i, rfl, rfl, by rw [zlo_e, zbl_i]; omega, by rw [zhi_e, zbl_i]; omega, zbl_lN hb⟩
    have n1 : (-1 : Int32) = nI 4294967295 := by decide +kernel
    have n2 : (1 : Int32) = nI 1 := rfl
    have eb : Nat.shiftRight (Nat.mod (Nat.add 147573952589676412928 (16 * b + 2)) 295147905179352825856) 4 = (b + 9223372036854775808) % 18446744073709551616 := by rw [zlcb, zs4, zq16']
    have f0 : zbi (nI 0) = 2147483648 := by decide +kernel
    have f1 : zbi (nI 1) = 2147483649 := by decide +kernel
    have f2 : zbi (nI 4294967295) = 2147483647 := by decide +kernel
    rcases zBc ho with ⟨b3, ho⟩ | ⟨b3, ho⟩
    · have b3 := zble b3
      rw [eb] at b3; simp only [Nat.succ_eq_add_one, Nat.add_eq] at b3
      refine fin (16 * 4294967295) ho fun ad X Y r1 r2 => ?_
      obtain ⟨i, e1, e2, e3, e4, e5⟩ := hz ad X Y r1 r2
      refine ⟨_, _, e1, e2, ?_⟩
      rw [zlgc, e5, if_neg (by omega), if_neg (by omega), n1]
      exact zn0' (by decide)
    · rcases zBc ho with ⟨b4, ho⟩ | ⟨b4, ho⟩
      · have b4 := zble b4
        rw [eb] at b4; simp only [Nat.succ_eq_add_one, Nat.add_eq] at b4
        refine fin (16 * 1) ho fun ad X Y r1 r2 => ?_
        obtain ⟨i, e1, e2, e3, e4, e5⟩ := hz ad X Y r1 r2
        refine ⟨_, _, e1, e2, ?_⟩
        rw [zlgc, e5, if_pos (by omega), n2]
        exact zn0' (by decide)
      · rcases zBc ho with ⟨b5, ho⟩ | ⟨b5, ho⟩
        · have b5 := zble b5
          rw [eb] at b5; simp only [Nat.add_eq] at b5
          obtain ⟨q, ho, hq⟩ := zivl_t ho
          refine fin q ho fun ad X Y r1 r2 => ?_
          obtain ⟨i, e1, e2, e3, e4, e5⟩ := hz ad X Y r1 r2
          refine ⟨_, _, e1, e2, hq _ _ _ (by decide) ?_ ?_⟩
          · rw [zlgc, e5, n1, n2, ← nI_0]
            by_cases w : (b + 9223372036854775808) % 18446744073709551616 < zbl i.toInt64
            · rw [if_pos w, f1]; decide
            · rw [if_neg w, if_pos (by omega), f0]; decide
          · rw [zlgc, e5, n1, n2, ← nI_0]
            by_cases w : (b + 9223372036854775808) % 18446744073709551616 < zbl i.toInt64
            · rw [if_pos w, f1]; decide
            · rw [if_neg w, if_pos (by omega), f0]; decide
        · obtain ⟨b6, ho⟩ := zB ho
          have b6 := zble b6
          rw [eb] at b6; simp only [Nat.add_eq] at b6
          obtain ⟨q, ho, hq⟩ := zivl_t ho
          refine fin q ho fun ad X Y r1 r2 => ?_
          obtain ⟨i, e1, e2, e3, e4, e5⟩ := hz ad X Y r1 r2
          refine ⟨_, _, e1, e2, hq _ _ _ (by decide) ?_ ?_⟩
          · rw [zlgc, e5, n1, n2, ← nI_0, if_neg (by omega)]
            by_cases w : zbl i.toInt64 = (b + 9223372036854775808) % 18446744073709551616
            · rw [if_pos w, f0]; decide
            · rw [if_neg w, f2]; decide
          · rw [zlgc, e5, n1, n2, ← nI_0, if_neg (by omega)]
            by_cases w : zbl i.toInt64 = (b + 9223372036854775808) % 18446744073709551616
            · rw [if_pos w, f0]; decide
            · rw [if_neg w, f2]; decide
  · obtain ⟨b2, ho⟩ := zB ho
    obtain ⟨b3, ho⟩ := zB ho
    have b3 : 16 * b + 2 = 2 := zbeq b3
    have hb0 : b = 0 := by omega
    subst hb0
    have n1 : (-1 : Int32) = nI 4294967295 := by decide +kernel
    have n2 : (1 : Int32) = nI 1 := rfl
    have hz : ∀ ad X Y, zrel G.2.1 ad x X → zrel G.2.1 ad (16 * 0 + 2) Y → ∃ a, a < 18446744073709551616 ∧ X = .long (lN a) ∧ Y = .long (lN 0) ∧ zbl (lN a) = (a + 9223372036854775808) % 18446744073709551616 ∧ zbl (lN 0) = 9223372036854775808 ∧ zwv x ≤ a ∧ a ≤ Nat.lor (zwv x) (zwm x) := fun ad X Y r1 r2 => by
      obtain ⟨a, ha, rfl, h1⟩ := zn14 (zkq b2) r1
      obtain ⟨b', e2, hb, rfl⟩ := zn2 b1 r2
      obtain rfl : b' = 0 := by omega
      exact ⟨a, ha, rfl, rfl, zbl_lN ha, zbl_lN (by decide), zbt_lo h1, zbt_hi h1.2⟩
    rcases zBc ho with ⟨b4, ho⟩ | ⟨-, ho⟩
    · have b4 : 9223372036854775808 ≤ zwv x := zble b4
      refine fin (16 * 4294967295) ho fun ad X Y r1 r2 => ?_
      obtain ⟨a, ha, e1, e2, e3, e4, e5, e6⟩ := hz ad X Y r1 r2
      refine ⟨_, _, e1, e2, ?_⟩
      rw [zlgc, e3, e4, if_neg (by omega), if_neg (by omega), n1]
      exact zn0' (by decide)
    · obtain ⟨b4, ho⟩ := zB ho
      obtain ⟨b5, ho⟩ := zB ho
      have b4 : Nat.lor (zwv x) (zwm x) ≤ 9223372036854775807 := zble b4
      have b5 : 1 ≤ zwv x := zble b5
      refine fin (16 * 1) ho fun ad X Y r1 r2 => ?_
      obtain ⟨a, ha, e1, e2, e3, e4, e5, e6⟩ := hz ad X Y r1 r2
      refine ⟨_, _, e1, e2, ?_⟩
      rw [zlgc, e3, e4, if_pos (by omega), n2]
      exact zn0' (by decide)
end Jumps
