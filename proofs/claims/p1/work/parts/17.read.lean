/-! THE HEAP READ. -/
def zcls2 : List vw_C := zcls ++ [(RJ0, TJ0, 2), (RJ6, TJ6, 1)]
theorem zcls2_s {c : Nat} {q : vw_C} (h : zcls[c]? = some q) : zcls2[c]? = some q := by
  unfold zcls2
  rw [List.getElem?_append_left (List.getElem?_eq_some_iff.mp h).1]; exact h
def ztyp (k : Nat) : FieldType := match k with
  | 20 => .int
  | 21 => .long
  | 22 => .byte
  | 23 => .char
  | 24 => .double
  | 25 => .object "Residueworks$Whole"
  | 26 => .object "java/lang/Object"
  | 27 => .array .int
  | 28 => .object "ResidueworksModel$Whole"
  | _ => .object "java/lang/Integer"
def ztys (dA : Nat → ClassId) : List (ClassId × FieldType) := (List.range 9).map fun i => (dA (20 + i), ztyp (20 + i))
theorem ztys_at {dA : Nat → ClassId} {k : Nat} (h1 : 20 ≤ k) (h2 : k < 29) : (ztys dA)[k - 20]? = some (dA k, ztyp k) := by
  have h3 : k - 20 < 9 := by omega
  simp only [ztys, List.getElem?_map, List.getElem?_range h3, Option.map_some]
  rw [show 20 + (k - 20) = k by omega]
/-- a cell that may be read -/
def zcrx (e : zen) (dA : Nat → ClassId) (ad : zam) (c : zc) (E : va_E) : Prop := c.2.1 ≤ 65535 ∧ (
  (c.1 < 16 ∧ ∃ fs, E = .inr (c.1, fs) ∧ zall e ad c.2.2 fs) ∨
  ((c.1 = 20 ∨ c.1 = 22 ∨ c.1 = 23) ∧ ∃ f : Nat → Int32, E = .inl (dA c.1, c.2.1, .inl f) ∧ ∀ (j v : Nat), c.2.2[j]? = some v → zrel e ad v (.int (f j))) ∨
  (c.1 = 21 ∧ ∃ f : Nat → Int64, E = .inl (dA 21, c.2.1, .inr (.inl f)) ∧ ∀ (j v : Nat), c.2.2[j]? = some v → zrel e ad v (.long (f j))) ∨
  (c.1 = 24 ∧ ∃ f : Nat → UInt64, E = .inl (dA 24, c.2.1, .inr (.inr (.inr (.inl f)))) ∧ ∀ (j v : Nat), c.2.2[j]? = some v → zrel e ad v (.double (f j))) ∨
  ((25 ≤ c.1 ∧ c.1 ≤ 29) ∧ ∃ f : Nat → Option Nat, E = .inl (dA c.1, c.2.1, zrf f) ∧ ∀ (j v : Nat), c.2.2[j]? = some v → zrel e ad v (va_rf (f j))) ∨
  ((c.1 = 30 ∨ c.1 = 31) ∧ c.2.1 = 8 ∧ ∃ f : Nat → Option Nat, E = .inl (dA (if c.1 = 30 then 25 else 28), 8, zrf f) ∧ ∀ w ∈ c.2.2, w % 16 < e.2.2.2 ∧ w / 16 < ad.1 ∧ f (e.1 (w % 16)).toNatClampNeg = some (ad.2 (w / 16))))
theorem zcr.x {e : zen} {dA : Nat → ClassId} {ad : zam} {c : zc} {E : va_E} (h : zcr e dA ad c E) : zcrx e dA ad c E := by
  obtain ⟨h0, h⟩ := h
  refine ⟨h0, ?_⟩
  rcases h with ⟨h1, h⟩ | ⟨h1, h⟩ | ⟨h1, h⟩ | ⟨h1, h⟩ | ⟨h1, h⟩ | ⟨h1, h⟩
  · exact Or.inl ⟨by omega, h⟩
  · exact Or.inr (Or.inl ⟨h1, h⟩)
  · exact Or.inr (Or.inr (Or.inl ⟨h1, h⟩))
  · exact Or.inr (Or.inr (Or.inr (Or.inl ⟨h1, h⟩)))
  · exact Or.inr (Or.inr (Or.inr (Or.inr (Or.inl ⟨by omega, h⟩))))
  · exact Or.inr (Or.inr (Or.inr (Or.inr (Or.inr ⟨h1, h⟩))))
/-- an object that was there: its class, its fields -/
def zXo (G : zgl) (a : Nat) (c : zc) : Prop := ∃ r : vw_C, zcls2[c.1]? = some r ∧ va_O r.1 a (zA G) G.2.2.2.2 G.2.2.2.2.heap ∧ ∀ (i v : Nat), c.2.2[i]? = some v → ∃ x, (∀ ad, zrel G.2.1 ad v x) ∧ va_OF (r.2.1 i).1 (r.2.1 i).2.1 (r.2.1 i).2.2.1 x a (zA G) G.2.2.2.2 G.2.2.2.2.heap
/-- a row that was there -/
def zXa (G : zgl) (a : Nat) (c : zc) : Prop := ∃ f : Nat → Value, va_T (ztyp c.1) a c.2.1 f (zA G) G.2.2.2.2 G.2.2.2.2.heap ∧ ∀ (j v : Nat), c.2.2[j]? = some v → ∀ ad, zrel G.2.1 ad v (f j)
/-- a row of ints that may be put into a row of rows -/
def zXi (G : zgl) (a : Nat) : Prop := ∃ cell : Cell, G.2.2.2.2.heap[a]? = some cell ∧ cell.cls = G.2.2.2.1 20 ∧ ∀ q, cell.vm ≠ .statics q
/-- what is known of a cell that was there -/
def zXf (G : zgl) (a : Nat) (c : zc) : Prop := c.2.1 ≤ 65535 ∧ ((14 ≤ c.1 ∧ c.1 < 16 ∧ zXo G a c) ∨ ((c.1 = 20 ∨ c.1 = 22 ∨ c.1 = 26 ∨ c.1 = 29) ∧ zXa G a c))
/-- the cells that were there, from no. 1 on -/
def zXt (G : zgl) : Prop := ∀ (k : Nat) (c : zc), zext[k]? = some c → 1 ≤ k → zXf G (G.2.1.2.1 k) c
/-- the script -/
def zSc (G : zgl) (ctx : zctx) : Prop := ∃ xs : Nat → Int32, va_X (G.2.1.2.1 0) ctx.2.length xs G.2.2.2.2 G.2.2.2.2.heap ∧ ctx.2.length < 2147483648 ∧ ∀ (j v : Nat), ctx.2[j]? = some v → ∀ ad, zrel G.2.1 ad v (.int (xs j))
/-- the rows of rows of ints -/
def zAr (dA : Nat → ClassId) (s : State) : Prop := ∃ kA : Class, s.vm.classes[dA 27]? = some kA ∧ kA.kind = .array (dA 20) (.array .int)
/-- the static fields: class, name, type, what they hold -/
def zstl : List (String × String × String × Nat) := [("ResidueworksModel", "NOTHING", "[I", 22), ("java/util/ArrayList", "DEFAULTCAPACITY_EMPTY_ELEMENTDATA", "[Ljava/lang/Object;", 38), ("java/lang/Integer$IntegerCache", "cache", "[Ljava/lang/Integer;", 54), ("java/lang/String", "COMPACT_STRINGS", "Z", 16), ("java/lang/Integer$IntegerCache", "high", "I", 2032), ("jdk/internal/util/Preconditions", "SIOOBE_FORMATTER", "Ljava/util/function/BiFunction;", 10)]
/-- the texts that the run reads: place, text, what stands for it -/
def ztxl : List (Nat × String × Nat) := [(212, "slct", 70), (235, "+-*/%mgc&|^n<>", 102), (240, "-a~q", 134), (252, "10f", 166), (281, "0123456789abcdefghijklmnopqrstuvwxyz", 198)]
/-- the texts of the exceptions -/
def zxtl : List (Nat × String) := [(123, "nothing such is told"), (130, "no int"), (136, "divided by 0"), (138, "the modulus is not above 0"), (144, "no such sign"), (146, "a root of a number below 0"), (154, "too long"), (168, "no such how"), (177, "quotient and rest are the same"), (192, "the text is full"), (203, "no such place"), (216, "too much text"), (226, "the row is full"), (242, "not prime to the modulus"), (251, "not odd, or not above 0"), (282, "not 0 to 1048575"), (288, "no odd prime up to 1048575"), (295, "no square leaves that"), (299, "enough conditions are told"), (305, "both registers are the same"), (325, "below 2"), (330, "the length is 0"), (375, "no such register"), (377, "a number is out of range"), (379, "the modulus is not 2 to 4096")]
/-- which exceptions are not which -/
def znc : List (String × String) := [("java/lang/IndexOutOfBoundsException", "java/lang/IllegalArgumentException"), ("java/lang/IndexOutOfBoundsException", "java/lang/ArithmeticException"), ("java/lang/IndexOutOfBoundsException", "java/lang/IllegalStateException"), ("java/lang/IndexOutOfBoundsException", "java/util/NoSuchElementException"), ("java/lang/IllegalArgumentException", "java/lang/IndexOutOfBoundsException"), ("java/lang/IllegalArgumentException", "java/lang/ArithmeticException"), ("java/lang/IllegalArgumentException", "java/lang/IllegalStateException"), ("java/lang/IllegalArgumentException", "java/util/NoSuchElementException"), ("java/lang/ArithmeticException", "java/lang/IndexOutOfBoundsException"), ("java/lang/ArithmeticException", "java/lang/IllegalArgumentException"), ("java/lang/ArithmeticException", "java/lang/IllegalStateException"), ("java/lang/ArithmeticException", "java/util/NoSuchElementException"), ("java/lang/IllegalStateException", "java/lang/IndexOutOfBoundsException"), ("java/lang/IllegalStateException", "java/lang/IllegalArgumentException"), ("java/lang/IllegalStateException", "java/lang/ArithmeticException"), ("java/lang/IllegalStateException", "java/util/NoSuchElementException"), ("java/util/NoSuchElementException", "java/lang/IndexOutOfBoundsException"), ("java/util/NoSuchElementException", "java/lang/IllegalArgumentException"), ("java/util/NoSuchElementException", "java/lang/ArithmeticException"), ("java/util/NoSuchElementException", "java/lang/IllegalStateException")]
/-- the calls by an interface: the receiver's class, the interface's method, the method run -/
def zfwl : List (String × MethodName × MethodName) := [("java/util/ArrayList", ⟨"java/util/List", "add", "(Ljava/lang/Object;)Z"⟩, ⟨"java/util/ArrayList", "add", "(Ljava/lang/Object;)Z"⟩), ("java/util/ArrayList", ⟨"java/util/List", "clear", "()V"⟩, ⟨"java/util/ArrayList", "clear", "()V"⟩), ("java/util/ArrayList", ⟨"java/util/List", "isEmpty", "()Z"⟩, ⟨"java/util/ArrayList", "isEmpty", "()Z"⟩), ("java/util/ArrayList", ⟨"java/util/List", "iterator", "()Ljava/util/Iterator;"⟩, ⟨"java/util/ArrayList", "iterator", "()Ljava/util/Iterator;"⟩), ("java/util/ArrayList", ⟨"java/util/List", "size", "()I"⟩, ⟨"java/util/ArrayList", "size", "()I"⟩), ("java/util/ArrayList$Itr", ⟨"java/util/Iterator", "hasNext", "()Z"⟩, ⟨"java/util/ArrayList$Itr", "hasNext", "()Z"⟩)]
/-- what more is known of the start -/
def zMore (G : zgl) : Prop :=
  (∀ q ∈ zstl, ∃ X, va_Z q.1 q.2.1 q.2.2.1 X (zA G) G.2.2.2.2 G.2.2.2.2.heap ∧ ∀ ad, zrel G.2.1 ad q.2.2.2 X) ∧
  (∀ q ∈ ztxl, ∃ a, vk_R "ResidueworksModel" q.1 q.2.1 a G.2.2.2.2 ∧ ∀ ad, zrel G.2.1 ad q.2.2 (.ref a)) ∧
  (∀ q ∈ zxtl, ∃ a, vk_R "Residueworks" q.1 q.2 a G.2.2.2.2) ∧
  (∀ q ∈ znc, va_Nc q.1 q.2 G.2.2.2.2) ∧ (∀ w ∈ zTn, ∀ A, w.before A G.2.2.2.2 = true) ∧ (∀ q ∈ zfwl, va_Fw q.1 q.2.1 q.2.2 G.2.2.2.2) ∧
  vx_Zq Bundle.tN "UNASSIGNED_STACK" Bundle.steD (zA G) G.2.2.2.2 G.2.2.2.2.heap ∧ vx_Zq Bundle.tN "SUPPRESSED_SENTINEL" Bundle.listD (zA G) G.2.2.2.2 G.2.2.2.2.heap ∧ G.1.stackTraces = false
/-- the rows of ints that were there are of the class that rows of rows take -/
def zGap (G : zgl) : Prop := ∀ (k : Nat) (c : zc), zext[k]? = some c → c.1 = 20 → zXi G (G.2.1.2.1 k)
def zPre (G : zgl) (ctx : zctx) : Prop := va_K G.2.2.1 zcls2 (ztys G.2.2.2.1) G.2.2.2.2 ∧ zXt G ∧ zSc G ctx ∧ (∀ s : State, G.2.2.2.2.vm.Alike s.vm → zAr G.2.2.2.1 s) ∧ zMore G
def zPreI (G : zgl) (ctx : zctx) : Prop := zPre G ctx ∧ zGap G
theorem zOK.mono {P Q : zgl → zctx → Prop} {m pc : Nat} {f : zS} (h : zOK P m pc f) (hpq : ∀ G ctx, Q G ctx → P G ctx) : zOK Q m pc f := fun G ctx ih hG hN hP hI => h G ctx ih hG hN (hpq G ctx hP) hI
section Read
variable {m pc nx : Nat} {md : zMD}
theorem zK {G : zgl} {ctx : zctx} {s : State} (h : zPre G ctx) (h0 : zE0 G s) : va_K G.2.2.1 zcls2 (ztys G.2.2.2.1) s := h.1.moved h0.1.alike
theorem zK1 {D : va_G} {tys : List (ClassId × FieldType)} {s : State} (h : va_K D zcls2 tys s) : va_K D zcls tys s := ⟨fun c q hq => h.1 c q (zcls2_s hq), h.2⟩
theorem va_at2 {D : va_G} {q : Nat × va_E} {H : Heap} (h : va_at D zcls q H) : va_at D zcls2 q H := by
  obtain ⟨a, E | o⟩ := q
  · exact h
  · obtain ⟨r, h1, h2⟩ := h
    exact ⟨r, zcls2_s h1, h2⟩
theorem zold {G : zgl} {s : State} {H : Heap} {locs : List Loc} (h0 : zE0 G s) (hS : va_S (zA G) s.heap H locs) {q : Nat} (hq : q < G.2.2.2.2.heap.size) : H[q]? = G.2.2.2.2.heap[q]? := by
  rw [hS.2.1 q (Nat.lt_of_lt_of_le hq h0.2.1) (fun z => by have : G.2.2.2.2.heap.size ≤ q := z; omega)]
  exact h0.2.2 q hq
theorem zeg_s {k : zc → zR} {o : zo} : ∀ {l : List zc} {i : Nat}, zeg l i k = some o → ∃ v, l[i]? = some v ∧ k v = some o
  | [], _, h => by cases h
  | a :: t, 0, h => ⟨a, rfl, h⟩
  | a :: t, i + 1, h => by
    obtain ⟨v, h1, h2⟩ := zeg_s (l := t) (i := i) h
    exact ⟨v, by simpa using h1, h2⟩
/-- a cell read: of the run, or one that was there -/
theorem zcell_s {h : zh} {v : Nat} {k : Nat → Nat → List Nat → zR} {o : zo} (q : zcell h v k = some o) : ∃ c : zc, k c.1 c.2.1 c.2.2 = some o ∧ ∀ (G : zgl) (ctx : zctx) (s : State) (ad : zam) (H : Heap) (locs : List Loc) (X : Value), zPre G ctx → zE0 G s → va_S (zA G) s.heap H locs → zHR G.2.1 G.2.2.1 G.2.2.2.1 G.2.2.2.2.heap.size ad h H → zrel G.2.1 ad v X → c.1 ≠ 98 → (∃ a E, X = .ref a ∧ zcr G.2.1 G.2.2.2.1 ad c E ∧ va_P G.2.2.1 zcls2 [(a, E)] H) ∨ ∃ k, zext[k]? = some c ∧ X = .ref (G.2.1.2.1 k) ∧ zXf G (G.2.1.2.1 k) c := by
  rcases zBc q with ⟨b1, q⟩ | ⟨-, q⟩
  · have b1 := zkq b1
    obtain ⟨h1, h2⟩ := zcel_s q
    refine ⟨_, h2, fun G ctx s ad H locs X hP h0 hS hH r _ => ?_⟩
    obtain ⟨r1, rfl⟩ := (zr4 b1 X).mp r
    obtain ⟨g1, g2, g3, g4, es, g5⟩ := hH
    rw [zs4] at h1 ⊢
    obtain ⟨k1, k2⟩ := g5 _ h1
    exact Or.inl ⟨_, _, rfl, k1, fun j x hj => by
      cases j with
      | zero => cases hj; exact va_at2 k2
      | succ j => cases hj⟩
  · obtain ⟨b1, q⟩ := zB q
    have b1 := zkq b1
    obtain ⟨c, h1, h2⟩ := zeg_s q
    refine ⟨c, h2, fun G ctx s ad H locs X hP h0 hS hH r h6 => ?_⟩
    rw [zs4] at h1
    have r := (zr6 b1 X).mp r
    subst r
    refine Or.inr ⟨_, h1, rfl, hP.2.1 _ _ h1 ?_⟩
    rcases Nat.eq_zero_or_pos (v / 16) with z | z
    · rw [z] at h1
      have h1 : some ((98, 0, []) : zc) = some c := h1
      have := Option.some.inj h1
      rw [← this] at h6
      exact absurd rfl h6
    · exact z
/-- .. seen from a later state -/
theorem zXo_O {G : zgl} {s : State} {C : String} {a : Nat} (h0 : zE0 G s) (h : va_O C a (zA G) G.2.2.2.2 G.2.2.2.2.heap) : va_O C a (zA G) s s.heap := (va_O.moved h0.1.alike h).kept fun q hq _ => h0.2.2 q hq
theorem zXo_F {G : zgl} {s : State} {o n d : String} {v : Value} {a : Nat} (h0 : zE0 G s) (h : va_OF o n d v a (zA G) G.2.2.2.2 G.2.2.2.2.heap) : va_OF o n d v a (zA G) s s.heap := (va_OF.moved h0.1.alike h).kept fun q hq _ => h0.2.2 q hq
theorem zXa_T {G : zgl} {s : State} {ty : FieldType} {a N : Nat} {f : Nat → Value} (h0 : zE0 G s) (h : va_T ty a N f (zA G) G.2.2.2.2 G.2.2.2.2.heap) : va_T ty a N f (zA G) s s.heap := (va_T.moved h0.1.alike h).kept fun q hq _ => h0.2.2 q hq
end Read
