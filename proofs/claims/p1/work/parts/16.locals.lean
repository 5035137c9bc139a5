section Locals
variable {Pre : zgl → zctx → Prop} {m pc nx : Nat} {md : zMD}
/-- a value's type: 0 int, 1 long, 2 float, 3 double, 4 reference -/
def zkV (t : Nat) (X : Value) : Prop := match t with
  | 0 => ∃ i, X = .int i
  | 1 => ∃ i, X = .long i
  | 2 => ∃ i, X = .float i
  | 3 => ∃ i, X = .double i
  | _ => X = .null ∨ ∃ u, X = .ref u
def zmsk (t : Nat) : Nat := match t with
  | 0 => 45067
  | 1 => 18436
  | 2 => 256
  | 3 => 128
  | _ => 1136
theorem zkindNo (t : Nat) : (zmsk t >>> 9) &&& 1 = 0 := by
  unfold zmsk; split <;> decide
theorem zmskV {E : zen} {ad : zam} {t v : Nat} {X : Value} (hG : zEok E) (h : (zmsk t >>> (v % 16)) &&& 1 ≠ 0) (r : zrel E ad v X) : zkV t X := by
  unfold zmsk at h
  unfold zkV
  split at h
  · exact zint (zkindI h) r
  · exact zlong (zkindL h) r
  · exact ⟨_, (zr8 (zkindF h) X).mp r⟩
  · exact ⟨_, (zr7 (zkindD h) X).mp r⟩
  · rename_i n1 n2 n3 n4
    have goal : X = .null ∨ ∃ u, X = .ref u := by
      rcases zkindA h with z | z | z | z
      · exact Or.inr ⟨_, ((zr4 z X).mp r).2⟩
      · exact Or.inl ((zr5 z X).mp r)
      · exact Or.inr ⟨_, (zr6 z X).mp r⟩
      · rw [(zr10 z X).mp r]; exact hG.2.2
    exact goal
def zLdRow (t i m pc nx : Nat) : Prop := ∀ (p : Program) (l : Launch) (e : Env) (R : Room) (s : State) (mid : MethodId) (args : Array Value) (below : List Frame) (meth : Method) (cc : Code) (H : Heap) (locs : List Loc) (cells slots : Nat) (Q : State → Prop) (lsA : Array Slot) (X : Value) (rest : List Value), zF m p s mid args meth cc → lsA[i]? = some (.val X) → zkV t X → W p l e R s mid args below meth cc H locs cells slots Q (F0 mid nx lsA (X :: rest)) → W p l e R s mid args below meth cc H locs cells slots Q (F0 mid pc lsA rest)
theorem ok_ld0 {t i : Nat} (row : zLdRow t i m pc nx) : zOK Pre m pc (s_ld (zmsk t) i nx) := by
  intro G ctx ih hG hN hP hI dep ls st h o ho
  obtain ⟨v, hl, ho⟩ := zlg_s ho
  obtain ⟨b1, ho⟩ := zmask' ho
  have n9 : v % 16 ≠ 9 := fun z => b1 (by rw [z]; exact zkindNo t)
  obtain ⟨h3, h4⟩ := hI m nx dep ls (v :: st) h o ho
  refine ⟨h3, fun p e R s mid args below meth c H locs cells slots Q ad lsA vals q1 q2 q3 q4 q5 q6 q7 q8 => ?_⟩
  obtain ⟨X, w1, w2⟩ := q5.2.2.2 i v hl n9
  exact row p G.1 e R s mid args below meth c H locs cells slots Q lsA X vals q1 w1 (zmskV hG b1 w2) (h4 p e R s mid args below meth c H locs cells slots Q ad lsA (X :: vals) q1 q2 q3 q4 q5 (zall.cons w2 q6) q7 q8)

theorem zld_0 (ms nx : Nat) : s_ld_0 ms nx = s_ld ms 0 nx := by
  funext ctx ih m dep ls st h
  show _ = s_ld ms 0 nx ctx ih m dep ls st h
  rcases ls with _ | ⟨a0, ls⟩ <;> rfl
theorem zld_1 (ms nx : Nat) : s_ld_1 ms nx = s_ld ms 1 nx := by
  funext ctx ih m dep ls st h
  show _ = s_ld ms 1 nx ctx ih m dep ls st h
  rcases ls with _ | ⟨a0, _ | ⟨a1, ls⟩⟩ <;> rfl
theorem zld_2 (ms nx : Nat) : s_ld_2 ms nx = s_ld ms 2 nx := by
  funext ctx ih m dep ls st h
  show _ = s_ld ms 2 nx ctx ih m dep ls st h
  rcases ls with _ | ⟨a0, _ | ⟨a1, _ | ⟨a2, ls⟩⟩⟩ <;> rfl
theorem zld_3 (ms nx : Nat) : s_ld_3 ms nx = s_ld ms 3 nx := by
  funext ctx ih m dep ls st h
  show _ = s_ld ms 3 nx ctx ih m dep ls st h
  rcases ls with _ | ⟨a0, _ | ⟨a1, _ | ⟨a2, _ | ⟨a3, ls⟩⟩⟩⟩ <;> rfl
theorem zld_4 (ms nx : Nat) : s_ld_4 ms nx = s_ld ms 4 nx := by
  funext ctx ih m dep ls st h
  show _ = s_ld ms 4 nx ctx ih m dep ls st h
  rcases ls with _ | ⟨a0, _ | ⟨a1, _ | ⟨a2, _ | ⟨a3, _ | ⟨a4, ls⟩⟩⟩⟩⟩ <;> rfl
theorem zld_5 (ms nx : Nat) : s_ld_5 ms nx = s_ld ms 5 nx := by
  funext ctx ih m dep ls st h
  show _ = s_ld ms 5 nx ctx ih m dep ls st h
  rcases ls with _ | ⟨a0, _ | ⟨a1, _ | ⟨a2, _ | ⟨a3, _ | ⟨a4, _ | ⟨a5, ls⟩⟩⟩⟩⟩⟩ <;> rfl
theorem zrow_iload_n {k : Fin 4} {i : Nat} (hm : zM m = some md) (hd : decode md.2.1 pc = .ok (.iload_n k, 1)) (hi : (k : Nat) = i) (hn : pc + 1 = nx) : zLdRow 0 i m pc nx := by
  subst hn
  rintro p l e R s mid args below meth cc H locs cells slots Q lsA X rest hF hl ⟨x, rfl⟩ k
  obtain ⟨hx, hb, -⟩ := hF.of hm
  exact lv_iload_n hx hb hd hi hl k
theorem zrow_iload {i : Nat} (hm : zM m = some md) (hd : decode md.2.1 pc = .ok (.iload i, 2)) (hn : pc + 2 = nx) : zLdRow 0 i m pc nx := by
  subst hn
  rintro p l e R s mid args below meth cc H locs cells slots Q lsA X rest hF hl ⟨x, rfl⟩ k
  obtain ⟨hx, hb, -⟩ := hF.of hm
  exact lv_iload hx hb hd hl k
theorem zrow_lload_n {k : Fin 4} {i : Nat} (hm : zM m = some md) (hd : decode md.2.1 pc = .ok (.lload_n k, 1)) (hi : (k : Nat) = i) (hn : pc + 1 = nx) : zLdRow 1 i m pc nx := by
  subst hn
  rintro p l e R s mid args below meth cc H locs cells slots Q lsA X rest hF hl ⟨x, rfl⟩ k
  obtain ⟨hx, hb, -⟩ := hF.of hm
  exact lv_lload_n hx hb hd hi hl k
theorem zrow_lload {i : Nat} (hm : zM m = some md) (hd : decode md.2.1 pc = .ok (.lload i, 2)) (hn : pc + 2 = nx) : zLdRow 1 i m pc nx := by
  subst hn
  rintro p l e R s mid args below meth cc H locs cells slots Q lsA X rest hF hl ⟨x, rfl⟩ k
  obtain ⟨hx, hb, -⟩ := hF.of hm
  exact lv_lload hx hb hd hl k
theorem zrow_fload_n {k : Fin 4} {i : Nat} (hm : zM m = some md) (hd : decode md.2.1 pc = .ok (.fload_n k, 1)) (hi : (k : Nat) = i) (hn : pc + 1 = nx) : zLdRow 2 i m pc nx := by
  subst hn
  rintro p l e R s mid args below meth cc H locs cells slots Q lsA X rest hF hl ⟨x, rfl⟩ k
  obtain ⟨hx, hb, -⟩ := hF.of hm
  exact lv_fload_n hx hb hd hi hl k
theorem zrow_fload {i : Nat} (hm : zM m = some md) (hd : decode md.2.1 pc = .ok (.fload i, 2)) (hn : pc + 2 = nx) : zLdRow 2 i m pc nx := by
  subst hn
  rintro p l e R s mid args below meth cc H locs cells slots Q lsA X rest hF hl ⟨x, rfl⟩ k
  obtain ⟨hx, hb, -⟩ := hF.of hm
  exact lv_fload hx hb hd hl k
theorem zrow_dload_n {k : Fin 4} {i : Nat} (hm : zM m = some md) (hd : decode md.2.1 pc = .ok (.dload_n k, 1)) (hi : (k : Nat) = i) (hn : pc + 1 = nx) : zLdRow 3 i m pc nx := by
  subst hn
  rintro p l e R s mid args below meth cc H locs cells slots Q lsA X rest hF hl ⟨x, rfl⟩ k
  obtain ⟨hx, hb, -⟩ := hF.of hm
  exact lv_dload_n hx hb hd hi hl k
theorem zrow_dload {i : Nat} (hm : zM m = some md) (hd : decode md.2.1 pc = .ok (.dload i, 2)) (hn : pc + 2 = nx) : zLdRow 3 i m pc nx := by
  subst hn
  rintro p l e R s mid args below meth cc H locs cells slots Q lsA X rest hF hl ⟨x, rfl⟩ k
  obtain ⟨hx, hb, -⟩ := hF.of hm
  exact lv_dload hx hb hd hl k
theorem zrow_aload_n {k : Fin 4} {i : Nat} (hm : zM m = some md) (hd : decode md.2.1 pc = .ok (.aload_n k, 1)) (hi : (k : Nat) = i) (hn : pc + 1 = nx) : zLdRow 4 i m pc nx := by
  subst hn
  rintro p l e R s mid args below meth cc H locs cells slots Q lsA X rest hF hl (rfl | ⟨x, rfl⟩) k
  · obtain ⟨hx, hb, -⟩ := hF.of hm
    exact lv_aload_nN hx hb hd hi hl k
  · obtain ⟨hx, hb, -⟩ := hF.of hm
    exact lv_aload_n hx hb hd hi hl k
theorem zrow_aload {i : Nat} (hm : zM m = some md) (hd : decode md.2.1 pc = .ok (.aload i, 2)) (hn : pc + 2 = nx) : zLdRow 4 i m pc nx := by
  subst hn
  rintro p l e R s mid args below meth cc H locs cells slots Q lsA X rest hF hl (rfl | ⟨x, rfl⟩) k
  · obtain ⟨hx, hb, -⟩ := hF.of hm
    exact lv_aloadN hx hb hd hl k
  · obtain ⟨hx, hb, -⟩ := hF.of hm
    exact lv_aload hx hb hd hl k
-- stores
theorem zst_z {v : Nat} {o : zo} : ∀ {ls : List Nat} {i : Nat} {k : List Nat → zR}, zst ls i v k = some o → i < ls.length ∧ ∃ l', k l' = some o ∧ l'.length = ls.length ∧ l'[i]? = some v ∧ ∀ (j w : Nat), j ≠ i → l'[j]? = some w → w % 16 ≠ 9 → ls[j]? = some w ∧ (j + 1 = i → (18564 >>> (w % 16)) &&& 1 = 0) := by
  intro ls
  induction ls with
  | nil => intro i k h; cases h
  | cons a t ih =>
    intro i k h
    cases i with
    | zero =>
      have h : k (v :: t) = some o := h
      refine ⟨by simp, v :: t, h, rfl, rfl, fun j w hj hw h9 => ?_⟩
      cases j with
      | zero => exact absurd rfl hj
      | succ j => exact ⟨hw, fun z => by omega⟩
    | succ i =>
      cases i with
      | zero =>
        obtain ⟨b, t', rfl, h⟩ := zLs h
        rcases zc01 h with ⟨c1, h⟩ | ⟨c1, h⟩
        · rw [zl15] at c1
          refine ⟨by simp, a :: v :: t', h, rfl, rfl, fun j w hj hw h9 => ?_⟩
          cases j with
          | zero =>
            have : a = w := by simpa using hw
            subst this
            exact ⟨rfl, fun _ => c1⟩
          | succ j =>
            cases j with
            | zero => exact absurd rfl hj
            | succ j => exact ⟨hw, fun z => by omega⟩
        · refine ⟨by simp, 9 :: v :: t', h, rfl, rfl, fun j w hj hw h9 => ?_⟩
          cases j with
          | zero =>
            have : 9 = w := by simpa using hw
            subst this
            exact absurd rfl h9
          | succ j =>
            cases j with
            | zero => exact absurd rfl hj
            | succ j => exact ⟨hw, fun z => by omega⟩
      | succ i =>
        have h : zst t (i + 1) v (fun t' => k (a :: t')) = some o := h
        obtain ⟨k1, l', k2, k3, k4, k5⟩ := ih h
        refine ⟨by simp; omega, a :: l', k2, by simp [k3], by simpa using k4, fun j w hj hw h9 => ?_⟩
        cases j with
        | zero => exact ⟨hw, fun z => by omega⟩
        | succ j =>
          obtain ⟨w1, w2⟩ := k5 j w (by omega) (by simpa using hw) h9
          exact ⟨by simpa using w1, fun z => w2 (by omega)⟩
/-- all that a frame's places hold -/
def zfull (lsA : Array Slot) : List (Nat × Value) := (List.range lsA.size).filterMap fun j => match (lsA[j]? : Option Slot) with
  | some (Slot.val v) => some (j, v)
  | _ => none
theorem zfull_m {lsA : Array Slot} {j : Nat} {X : Value} (h : lsA[j]? = some (.val X)) : (j, X) ∈ zfull lsA := by
  unfold zfull
  rw [List.mem_filterMap]
  refine ⟨j, ?_, by rw [h]⟩
  rw [List.mem_range]
  rcases Nat.lt_or_ge j lsA.size with q | q
  · exact q
  · rw [Array.getElem?_eq_none q] at h; cases h
theorem zfull_h {lsA : Array Slot} {nL : Nat} (h1 : lsA.size = nL) (h2 : lv_wf lsA) : lv_has lsA nL (zfull lsA) := by
  refine ⟨h1, h2, fun q hq => ?_⟩
  unfold zfull at hq
  rw [List.mem_filterMap] at hq
  obtain ⟨j, -, hj⟩ := hq
  split at hj
  · rename_i v hv
    have := Option.some.inj hj
    subst this
    exact hv
  · cases hj
theorem zloc.st {E : zen} {ad : zam} {nL i v : Nat} {l l' : List Nat} {lsA ls' : Array Slot} {X : Value} {lv : List (Nat × Value)} (hG : zEok E) (h : zloc E ad nL l lsA) (hlv : ∀ (j : Nat) (Y : Value), lsA[j]? = some (.val Y) → (j, Y) ∈ lv) (hl : l'.length = l.length) (hv : l'[i]? = some v) (hr : zrel E ad v X) (ho : ∀ (j w : Nat), j ≠ i → l'[j]? = some w → w % 16 ≠ 9 → l[j]? = some w ∧ (j + 1 = i → (18564 >>> (w % 16)) &&& 1 = 0)) (h' : lv_has ls' nL ((i, X) :: lv.filter (fun q => !(q.1 == i) && !(q.1 + 1 == i && q.2.category == 2)))) : zloc E ad nL l' ls' := by
  refine ⟨h'.1, h'.2.1, by rw [hl]; exact h.2.2.1, fun j w hw h9 => ?_⟩
  by_cases q : j = i
  · subst q
    have : v = w := by rw [hv] at hw; exact Option.some.inj hw
    subst this
    exact ⟨X, h'.2.2 (j, X) (by simp), hr⟩
  · obtain ⟨w1, w2⟩ := ho j w q hw h9
    obtain ⟨Y, y1, y2⟩ := h.2.2.2 j w w1 h9
    refine ⟨Y, h'.2.2 (j, Y) ?_, y2⟩
    refine List.mem_cons_of_mem _ (List.mem_filter.mpr ⟨hlv j Y y1, ?_⟩)
    have n1 : (j == i) = false := by simpa using q
    have n2 : (j + 1 == i && Y.category == 2) = false := by
      by_cases z : j + 1 = i
      · rw [zcat1 hG (w2 z) y2]; simp
      · simp [z]
    simp only [n1, n2]; rfl
def zStRow (t i m pc nx : Nat) : Prop := ∀ (p : Program) (l : Launch) (e : Env) (R : Room) (s : State) (mid : MethodId) (args : Array Value) (below : List Frame) (meth : Method) (cc : Code) (H : Heap) (locs : List Loc) (cells slots : Nat) (Q : State → Prop) (lsA : Array Slot) (X : Value) (rest : List Value) (nL : Nat) (lv : List (Nat × Value)), zF m p s mid args meth cc → lv_has lsA nL lv → i < nL → zkV t X → (∀ ls', lv_has ls' nL ((i, X) :: lv.filter (fun q => !(q.1 == i) && !(q.1 + 1 == i && q.2.category == 2))) → W p l e R s mid args below meth cc H locs cells slots Q (F0 mid nx ls' rest)) → W p l e R s mid args below meth cc H locs cells slots Q (F0 mid pc lsA (X :: rest))
theorem ok_s10 {t i : Nat} (row : zStRow t i m pc nx) : zOK Pre m pc (s_s1 (zmsk t) i nx) := by
  intro G ctx ih hG hN hP hI dep ls st h o ho
  obtain ⟨v, r, rfl, ho⟩ := zLs ho
  obtain ⟨b1, ho⟩ := zmask' ho
  obtain ⟨k1, l', ho, k2, k3, k4⟩ := zst_z ho
  obtain ⟨h3, h4⟩ := hI m nx dep l' r h o ho
  refine ⟨h3, fun p e R s mid args below meth c H locs cells slots Q ad lsA vals q1 q2 q3 q4 q5 q6 q7 q8 => ?_⟩
  obtain ⟨X, vals, rfl, r1, hv⟩ := q6.inv
  refine row p G.1 e R s mid args below meth c H locs cells slots Q lsA X vals c.maxLocals (zfull lsA) q1 (zfull_h q5.1 q5.2.1) (by rw [← q5.2.2.1]; exact k1) (zmskV hG b1 r1) fun ls' hh => ?_
  exact h4 p e R s mid args below meth c H locs cells slots Q ad ls' vals q1 q2 q3 q4 (q5.st hG (fun j Y => zfull_m) k2 k3 r1 k4 hh) hv q7 q8
theorem zs1_0 (ms nx : Nat) : s_s1_0 ms nx = s_s1 ms 0 nx := by
  funext ctx ih m dep ls st h
  show _ = s_s1 ms 0 nx ctx ih m dep ls st h
  rcases ls with _ | ⟨a0, ls⟩ <;> rfl
theorem zs1_1 (ms nx : Nat) : s_s1_1 ms nx = s_s1 ms 1 nx := by
  funext ctx ih m dep ls st h
  show _ = s_s1 ms 1 nx ctx ih m dep ls st h
  rcases ls with _ | ⟨a0, _ | ⟨a1, ls⟩⟩ <;> rfl
theorem zs1_2 (ms nx : Nat) : s_s1_2 ms nx = s_s1 ms 2 nx := by
  funext ctx ih m dep ls st h
  show _ = s_s1 ms 2 nx ctx ih m dep ls st h
  rcases ls with _ | ⟨a0, _ | ⟨a1, _ | ⟨a2, ls⟩⟩⟩ <;> rfl
theorem zs1_3 (ms nx : Nat) : s_s1_3 ms nx = s_s1 ms 3 nx := by
  funext ctx ih m dep ls st h
  show _ = s_s1 ms 3 nx ctx ih m dep ls st h
  rcases ls with _ | ⟨a0, _ | ⟨a1, _ | ⟨a2, _ | ⟨a3, ls⟩⟩⟩⟩ <;> rfl
theorem zs1_4 (ms nx : Nat) : s_s1_4 ms nx = s_s1 ms 4 nx := by
  funext ctx ih m dep ls st h
  show _ = s_s1 ms 4 nx ctx ih m dep ls st h
  rcases ls with _ | ⟨a0, _ | ⟨a1, _ | ⟨a2, _ | ⟨a3, _ | ⟨a4, ls⟩⟩⟩⟩⟩ <;> rfl
theorem zs1_5 (ms nx : Nat) : s_s1_5 ms nx = s_s1 ms 5 nx := by
  funext ctx ih m dep ls st h
  show _ = s_s1 ms 5 nx ctx ih m dep ls st h
  rcases ls with _ | ⟨a0, _ | ⟨a1, _ | ⟨a2, _ | ⟨a3, _ | ⟨a4, _ | ⟨a5, ls⟩⟩⟩⟩⟩⟩ <;> rfl
theorem zrow_istore_n {k : Fin 4} {i : Nat} (hm : zM m = some md) (hd : decode md.2.1 pc = .ok (.istore_n k, 1)) (hi : (k : Nat) = i) (hn : pc + 1 = nx) : zStRow 0 i m pc nx := by
  subst hn
  rintro p l e R s mid args below meth cc H locs cells slots Q lsA X rest nL lv hF hh hlt ⟨x, rfl⟩ k
  obtain ⟨hx, hb, -⟩ := hF.of hm
  exact lv_istore_n hx hb hd hi hh hlt rfl k
theorem zrow_istore {i : Nat} (hm : zM m = some md) (hd : decode md.2.1 pc = .ok (.istore i, 2)) (hn : pc + 2 = nx) : zStRow 0 i m pc nx := by
  subst hn
  rintro p l e R s mid args below meth cc H locs cells slots Q lsA X rest nL lv hF hh hlt ⟨x, rfl⟩ k
  obtain ⟨hx, hb, -⟩ := hF.of hm
  exact lv_istore hx hb hd hh hlt rfl k
theorem zrow_fstore_n {k : Fin 4} {i : Nat} (hm : zM m = some md) (hd : decode md.2.1 pc = .ok (.fstore_n k, 1)) (hi : (k : Nat) = i) (hn : pc + 1 = nx) : zStRow 2 i m pc nx := by
  subst hn
  rintro p l e R s mid args below meth cc H locs cells slots Q lsA X rest nL lv hF hh hlt ⟨x, rfl⟩ k
  obtain ⟨hx, hb, -⟩ := hF.of hm
  exact lv_fstore_n hx hb hd hi hh hlt rfl k
theorem zrow_fstore {i : Nat} (hm : zM m = some md) (hd : decode md.2.1 pc = .ok (.fstore i, 2)) (hn : pc + 2 = nx) : zStRow 2 i m pc nx := by
  subst hn
  rintro p l e R s mid args below meth cc H locs cells slots Q lsA X rest nL lv hF hh hlt ⟨x, rfl⟩ k
  obtain ⟨hx, hb, -⟩ := hF.of hm
  exact lv_fstore hx hb hd hh hlt rfl k
theorem zrow_astore_n {k : Fin 4} {i : Nat} (hm : zM m = some md) (hd : decode md.2.1 pc = .ok (.astore_n k, 1)) (hi : (k : Nat) = i) (hn : pc + 1 = nx) : zStRow 4 i m pc nx := by
  subst hn
  rintro p l e R s mid args below meth cc H locs cells slots Q lsA X rest nL lv hF hh hlt (rfl | ⟨x, rfl⟩) k
  · obtain ⟨hx, hb, -⟩ := hF.of hm
    exact lv_astore_nN hx hb hd hi hh hlt rfl k
  · obtain ⟨hx, hb, -⟩ := hF.of hm
    exact lv_astore_n hx hb hd hi hh hlt rfl k
theorem zrow_astore {i : Nat} (hm : zM m = some md) (hd : decode md.2.1 pc = .ok (.astore i, 2)) (hn : pc + 2 = nx) : zStRow 4 i m pc nx := by
  subst hn
  rintro p l e R s mid args below meth cc H locs cells slots Q lsA X rest nL lv hF hh hlt (rfl | ⟨x, rfl⟩) k
  · obtain ⟨hx, hb, -⟩ := hF.of hm
    exact lv_astoreN hx hb hd hh hlt rfl k
  · obtain ⟨hx, hb, -⟩ := hF.of hm
    exact lv_astore hx hb hd hh hlt rfl k
theorem zloc.st2 {E : zen} {ad : zam} {nL i v : Nat} {l l' : List Nat} {lsA ls' : Array Slot} {X : Value} {lv : List (Nat × Value)} (hG : zEok E) (h : zloc E ad nL l lsA) (hlv : ∀ (j : Nat) (Y : Value), lsA[j]? = some (.val Y) → (j, Y) ∈ lv) (hl : l'.length = l.length) (hv : l'[i]? = some v) (hr : zrel E ad v X) (h1 : l'[i + 1]? = some 9) (ho : ∀ (j w : Nat), j ≠ i → j ≠ i + 1 → l'[j]? = some w → w % 16 ≠ 9 → l[j]? = some w ∧ (j + 1 = i → (18564 >>> (w % 16)) &&& 1 = 0)) (h' : lv_has ls' nL ((i, X) :: lv.filter (fun q => !(q.1 == i) && (!(q.1 == i + 1) && !(q.1 + 1 == i && q.2.category == 2))))) : zloc E ad nL l' ls' := by
  refine ⟨h'.1, h'.2.1, by rw [hl]; exact h.2.2.1, fun j w hw h9 => ?_⟩
  by_cases q : j = i
  · subst q
    have : v = w := by rw [hv] at hw; exact Option.some.inj hw
    subst this
    exact ⟨X, h'.2.2 (j, X) (by simp), hr⟩
  · by_cases q1 : j = i + 1
    · subst q1
      rw [h1] at hw
      have := Option.some.inj hw
      subst this
      exact absurd rfl h9
    · obtain ⟨w1, w2⟩ := ho j w q q1 hw h9
      obtain ⟨Y, y1, y2⟩ := h.2.2.2 j w w1 h9
      refine ⟨Y, h'.2.2 (j, Y) ?_, y2⟩
      refine List.mem_cons_of_mem _ (List.mem_filter.mpr ⟨hlv j Y y1, ?_⟩)
      have n1 : (j == i) = false := by simpa using q
      have n3 : (j == i + 1) = false := by simpa using q1
      have n2 : (j + 1 == i && Y.category == 2) = false := by
        by_cases z : j + 1 = i
        · rw [zcat1 hG (w2 z) y2]; simp
        · simp [z]
      simp only [n1, n2, n3]; rfl
def zStRow2 (t i m pc nx : Nat) : Prop := ∀ (p : Program) (l : Launch) (e : Env) (R : Room) (s : State) (mid : MethodId) (args : Array Value) (below : List Frame) (meth : Method) (cc : Code) (H : Heap) (locs : List Loc) (cells slots : Nat) (Q : State → Prop) (lsA : Array Slot) (X : Value) (rest : List Value) (nL : Nat) (lv : List (Nat × Value)), zF m p s mid args meth cc → lv_has lsA nL lv → i + 1 < nL → zkV t X → (∀ ls', lv_has ls' nL ((i, X) :: lv.filter (fun q => !(q.1 == i) && (!(q.1 == i + 1) && !(q.1 + 1 == i && q.2.category == 2)))) → W p l e R s mid args below meth cc H locs cells slots Q (F0 mid nx ls' rest)) → W p l e R s mid args below meth cc H locs cells slots Q (F0 mid pc lsA (X :: rest))
theorem ok_s20 {t i : Nat} (row : zStRow2 t i m pc nx) : zOK Pre m pc (s_s2 (zmsk t) i nx) := by
  intro G ctx ih hG hN hP hI dep ls st h o ho
  obtain ⟨v, r, rfl, ho⟩ := zLs ho
  obtain ⟨b1, ho⟩ := zmask' ho
  obtain ⟨k1, l', ho, k2, k3, k4⟩ := zst_z ho
  obtain ⟨k5, ho⟩ := zls_s ho
  obtain ⟨h3, h4⟩ := hI m nx dep (l'.set (i + 1) 9) r h o ho
  refine ⟨h3, fun p e R s mid args below meth c H locs cells slots Q ad lsA vals q1 q2 q3 q4 q5 q6 q7 q8 => ?_⟩
  obtain ⟨X, vals, rfl, r1, hv⟩ := q6.inv
  have k5 : i + 1 < l'.length := k5
  refine row p G.1 e R s mid args below meth c H locs cells slots Q lsA X vals c.maxLocals (zfull lsA) q1 (zfull_h q5.1 q5.2.1) (by rw [← q5.2.2.1, ← k2]; exact k5) (zmskV hG b1 r1) fun ls' hh => ?_
  refine h4 p e R s mid args below meth c H locs cells slots Q ad ls' vals q1 q2 q3 q4 (q5.st2 hG (fun j Y => zfull_m) (by rw [List.length_set]; exact k2) (by rw [List.getElem?_set]; simp [k3]) r1 (by rw [List.getElem?_set]; simp [k5]) (fun j w z1 z2 z3 z4 => ?_) hh) hv q7 q8
  rw [List.getElem?_set, if_neg (by omega)] at z3
  exact k4 j w z1 z3 z4
theorem zrow_lstore_n {k : Fin 4} {i : Nat} (hm : zM m = some md) (hd : decode md.2.1 pc = .ok (.lstore_n k, 1)) (hi : (k : Nat) = i) (hn : pc + 1 = nx) : zStRow2 1 i m pc nx := by
  subst hn
  rintro p l e R s mid args below meth cc H locs cells slots Q lsA X rest nL lv hF hh hlt ⟨x, rfl⟩ k
  obtain ⟨hx, hb, -⟩ := hF.of hm
  exact lv_lstore_n hx hb hd hi hh hlt rfl k
theorem zrow_lstore {i : Nat} (hm : zM m = some md) (hd : decode md.2.1 pc = .ok (.lstore i, 2)) (hn : pc + 2 = nx) : zStRow2 1 i m pc nx := by
  subst hn
  rintro p l e R s mid args below meth cc H locs cells slots Q lsA X rest nL lv hF hh hlt ⟨x, rfl⟩ k
  obtain ⟨hx, hb, -⟩ := hF.of hm
  exact lv_lstore hx hb hd hh hlt rfl k
theorem zrow_dstore_n {k : Fin 4} {i : Nat} (hm : zM m = some md) (hd : decode md.2.1 pc = .ok (.dstore_n k, 1)) (hi : (k : Nat) = i) (hn : pc + 1 = nx) : zStRow2 3 i m pc nx := by
  subst hn
  rintro p l e R s mid args below meth cc H locs cells slots Q lsA X rest nL lv hF hh hlt ⟨x, rfl⟩ k
  obtain ⟨hx, hb, -⟩ := hF.of hm
  exact lv_dstore_n hx hb hd hi hh hlt rfl k
theorem zrow_dstore {i : Nat} (hm : zM m = some md) (hd : decode md.2.1 pc = .ok (.dstore i, 2)) (hn : pc + 2 = nx) : zStRow2 3 i m pc nx := by
  subst hn
  rintro p l e R s mid args below meth cc H locs cells slots Q lsA X rest nL lv hF hh hlt ⟨x, rfl⟩ k
  obtain ⟨hx, hb, -⟩ := hF.of hm
  exact lv_dstore hx hb hd hh hlt rfl k
theorem zincF (d a : Nat) : Nat.mod (Nat.add (16 * d) (16 * a)) 68719476736 = 16 * ((a + d) % 4294967296) := by
  rw [zmd, Nat.add_eq]; omega
theorem ok_inc {i d : Nat} {n : Int} (hm : zM m = some md) (hd : decode md.2.1 pc = .ok (.iinc i n, 3)) (hn : pc + 3 = nx) (hdn : d % 16 = 0 ∧ Int32.ofInt n = nI (d / 16)) : zOK Pre m pc (s_inc i d nx) := by
  subst hn
  intro G ctx ih hG hN hP hI dep ls st h o ho
  obtain ⟨d, rfl⟩ : ∃ b, d = 16 * b := ⟨d / 16, by omega⟩
  obtain ⟨v, hl, ho⟩ := zlg_s ho
  obtain ⟨b1, ho⟩ := zB ho
  have b1 : v % 16 = 0 := zkq b1
  obtain ⟨a, rfl⟩ : ∃ b, v = 16 * b := ⟨v / 16, by omega⟩
  have ho : zst ls i (Nat.mod (Nat.add (16 * d) (16 * a)) 68719476736) (fun l => ih m (pc + 3) dep l st h) = some o := ho
  rw [zincF] at ho
  obtain ⟨k1, l', ho, k2, k3, k4⟩ := zst_z ho
  obtain ⟨h3, h4⟩ := hI m (pc + 3) dep l' st h o ho
  refine ⟨h3, fun p e R s mid args below meth c H locs cells slots Q ad lsA vals q1 q2 q3 q4 q5 q6 q7 q8 => ?_⟩
  obtain ⟨X, w1, w2⟩ := q5.2.2.2 i _ hl (by omega)
  obtain ⟨a', e1, ha, rfl⟩ := zn0 b1 w2
  obtain rfl : a = a' := by omega
  obtain ⟨hx, hb, -⟩ := q1.of hm
  have hh := zfull_h q5.1 q5.2.1
  have hh1 : lv_has lsA c.maxLocals ((i, .int (nI a)) :: zfull lsA) := ⟨hh.1, hh.2.1, fun q hq => by
    rcases List.mem_cons.mp hq with rfl | hq
    · exact w1
    · exact hh.2.2 q hq⟩
  have hv : nI a + Int32.ofInt n = nI ((a + d) % 4294967296) := by
    rw [hdn.2, zq16, zi_mod, nI_add]
  refine lv_iinc (k := 0) hx hb hd hh1 rfl hv (by rw [← q5.2.2.1]; exact k1) rfl fun ls' h' => ?_
  exact h4 p e R s mid args below meth c H locs cells slots Q ad ls' vals q1 q2 q3 q4 (q5.st hG (fun j Y hj => List.mem_cons_of_mem _ (zfull_m hj)) k2 k3 (zn0' (Nat.mod_lt _ (by decide))) k4 h') q6 q7 q8
end Locals
