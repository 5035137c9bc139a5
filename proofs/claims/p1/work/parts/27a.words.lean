section Words
theorem ztb {w : Cond} (h : w ∈ tables_1) : w ∈ lw_tbl := List.mem_append_right _ h
theorem zt_1 {w : Cond} {i : Nat} (h0 : tables_1_1[i]? = some w) (g : goodWord w = true) : w ∈ zTg := by
  have h := List.mem_of_getElem? h0
  exact List.mem_filter.mpr ⟨ztb (List.mem_append_left _ h), g⟩
theorem zn_1 {w : Cond} {i : Nat} (h0 : tables_1_1[i]? = some w) (g : zNw w = true) : w ∈ zTn := by
  have h := List.mem_of_getElem? h0
  exact List.mem_filter.mpr ⟨ztb (List.mem_append_left _ h), g⟩
theorem zt_2 {w : Cond} {i : Nat} (h0 : tables_1_2[i]? = some w) (g : goodWord w = true) : w ∈ zTg := by
  have h := List.mem_of_getElem? h0
  exact List.mem_filter.mpr ⟨ztb (List.mem_append_right _ (List.mem_append_left _ h)), g⟩
theorem zn_2 {w : Cond} {i : Nat} (h0 : tables_1_2[i]? = some w) (g : zNw w = true) : w ∈ zTn := by
  have h := List.mem_of_getElem? h0
  exact List.mem_filter.mpr ⟨ztb (List.mem_append_right _ (List.mem_append_left _ h)), g⟩
theorem zt_3 {w : Cond} {i : Nat} (h0 : tables_1_3[i]? = some w) (g : goodWord w = true) : w ∈ zTg := by
  have h := List.mem_of_getElem? h0
  exact List.mem_filter.mpr ⟨ztb (List.mem_append_right _ (List.mem_append_right _ (List.mem_append_left _ h))), g⟩
theorem zn_3 {w : Cond} {i : Nat} (h0 : tables_1_3[i]? = some w) (g : zNw w = true) : w ∈ zTn := by
  have h := List.mem_of_getElem? h0
  exact List.mem_filter.mpr ⟨ztb (List.mem_append_right _ (List.mem_append_right _ (List.mem_append_left _ h))), g⟩
theorem zt_4 {w : Cond} {i : Nat} (h0 : tables_1_4[i]? = some w) (g : goodWord w = true) : w ∈ zTg := by
  have h := List.mem_of_getElem? h0
  exact List.mem_filter.mpr ⟨ztb (List.mem_append_right _ (List.mem_append_right _ (List.mem_append_right _ (List.mem_append_left _ h)))), g⟩
theorem zn_4 {w : Cond} {i : Nat} (h0 : tables_1_4[i]? = some w) (g : zNw w = true) : w ∈ zTn := by
  have h := List.mem_of_getElem? h0
  exact List.mem_filter.mpr ⟨ztb (List.mem_append_right _ (List.mem_append_right _ (List.mem_append_right _ (List.mem_append_left _ h)))), g⟩
theorem zt_5 {w : Cond} {i : Nat} (h0 : tables_1_5[i]? = some w) (g : goodWord w = true) : w ∈ zTg := by
  have h := List.mem_of_getElem? h0
  exact List.mem_filter.mpr ⟨ztb (List.mem_append_right _ (List.mem_append_right _ (List.mem_append_right _ (List.mem_append_right _ (List.mem_append_left _ h))))), g⟩
theorem zn_5 {w : Cond} {i : Nat} (h0 : tables_1_5[i]? = some w) (g : zNw w = true) : w ∈ zTn := by
  have h := List.mem_of_getElem? h0
  exact List.mem_filter.mpr ⟨ztb (List.mem_append_right _ (List.mem_append_right _ (List.mem_append_right _ (List.mem_append_right _ (List.mem_append_left _ h))))), g⟩
theorem zt_6 {w : Cond} {i : Nat} (h0 : tables_1_6[i]? = some w) (g : goodWord w = true) : w ∈ zTg := by
  have h := List.mem_of_getElem? h0
  exact List.mem_filter.mpr ⟨ztb (List.mem_append_right _ (List.mem_append_right _ (List.mem_append_right _ (List.mem_append_right _ (List.mem_append_right _ (List.mem_append_left _ h)))))), g⟩
theorem zn_6 {w : Cond} {i : Nat} (h0 : tables_1_6[i]? = some w) (g : zNw w = true) : w ∈ zTn := by
  have h := List.mem_of_getElem? h0
  exact List.mem_filter.mpr ⟨ztb (List.mem_append_right _ (List.mem_append_right _ (List.mem_append_right _ (List.mem_append_right _ (List.mem_append_right _ (List.mem_append_left _ h)))))), g⟩
theorem zt_7 {w : Cond} {i : Nat} (h0 : tables_1_7[i]? = some w) (g : goodWord w = true) : w ∈ zTg := by
  have h := List.mem_of_getElem? h0
  exact List.mem_filter.mpr ⟨ztb (List.mem_append_right _ (List.mem_append_right _ (List.mem_append_right _ (List.mem_append_right _ (List.mem_append_right _ (List.mem_append_right _ (List.mem_append_left _ h))))))), g⟩
theorem zn_7 {w : Cond} {i : Nat} (h0 : tables_1_7[i]? = some w) (g : zNw w = true) : w ∈ zTn := by
  have h := List.mem_of_getElem? h0
  exact List.mem_filter.mpr ⟨ztb (List.mem_append_right _ (List.mem_append_right _ (List.mem_append_right _ (List.mem_append_right _ (List.mem_append_right _ (List.mem_append_right _ (List.mem_append_left _ h))))))), g⟩
theorem zt_8 {w : Cond} {i : Nat} (h0 : tables_1_8[i]? = some w) (g : goodWord w = true) : w ∈ zTg := by
  have h := List.mem_of_getElem? h0
  exact List.mem_filter.mpr ⟨ztb (List.mem_append_right _ (List.mem_append_right _ (List.mem_append_right _ (List.mem_append_right _ (List.mem_append_right _ (List.mem_append_right _ (List.mem_append_right _ (List.mem_append_left _ h)))))))), g⟩
theorem zn_8 {w : Cond} {i : Nat} (h0 : tables_1_8[i]? = some w) (g : zNw w = true) : w ∈ zTn := by
  have h := List.mem_of_getElem? h0
  exact List.mem_filter.mpr ⟨ztb (List.mem_append_right _ (List.mem_append_right _ (List.mem_append_right _ (List.mem_append_right _ (List.mem_append_right _ (List.mem_append_right _ (List.mem_append_right _ (List.mem_append_left _ h)))))))), g⟩
theorem zt_9 {w : Cond} {i : Nat} (h0 : tables_1_9[i]? = some w) (g : goodWord w = true) : w ∈ zTg := by
  have h := List.mem_of_getElem? h0
  exact List.mem_filter.mpr ⟨ztb (List.mem_append_right _ (List.mem_append_right _ (List.mem_append_right _ (List.mem_append_right _ (List.mem_append_right _ (List.mem_append_right _ (List.mem_append_right _ (List.mem_append_right _ (List.mem_append_left _ h))))))))), g⟩
theorem zn_9 {w : Cond} {i : Nat} (h0 : tables_1_9[i]? = some w) (g : zNw w = true) : w ∈ zTn := by
  have h := List.mem_of_getElem? h0
  exact List.mem_filter.mpr ⟨ztb (List.mem_append_right _ (List.mem_append_right _ (List.mem_append_right _ (List.mem_append_right _ (List.mem_append_right _ (List.mem_append_right _ (List.mem_append_right _ (List.mem_append_right _ (List.mem_append_left _ h))))))))), g⟩
theorem zt_10 {w : Cond} {i : Nat} (h0 : tables_1_10[i]? = some w) (g : goodWord w = true) : w ∈ zTg := by
  have h := List.mem_of_getElem? h0
  exact List.mem_filter.mpr ⟨ztb (List.mem_append_right _ (List.mem_append_right _ (List.mem_append_right _ (List.mem_append_right _ (List.mem_append_right _ (List.mem_append_right _ (List.mem_append_right _ (List.mem_append_right _ (List.mem_append_right _ (List.mem_append_left _ h)))))))))), g⟩
theorem zn_10 {w : Cond} {i : Nat} (h0 : tables_1_10[i]? = some w) (g : zNw w = true) : w ∈ zTn := by
  have h := List.mem_of_getElem? h0
  exact List.mem_filter.mpr ⟨ztb (List.mem_append_right _ (List.mem_append_right _ (List.mem_append_right _ (List.mem_append_right _ (List.mem_append_right _ (List.mem_append_right _ (List.mem_append_right _ (List.mem_append_right _ (List.mem_append_right _ (List.mem_append_left _ h)))))))))), g⟩
theorem zt_11 {w : Cond} {i : Nat} (h0 : tables_1_11[i]? = some w) (g : goodWord w = true) : w ∈ zTg := by
  have h := List.mem_of_getElem? h0
  exact List.mem_filter.mpr ⟨ztb (List.mem_append_right _ (List.mem_append_right _ (List.mem_append_right _ (List.mem_append_right _ (List.mem_append_right _ (List.mem_append_right _ (List.mem_append_right _ (List.mem_append_right _ (List.mem_append_right _ (List.mem_append_right _ (h))))))))))), g⟩
theorem zn_11 {w : Cond} {i : Nat} (h0 : tables_1_11[i]? = some w) (g : zNw w = true) : w ∈ zTn := by
  have h := List.mem_of_getElem? h0
  exact List.mem_filter.mpr ⟨ztb (List.mem_append_right _ (List.mem_append_right _ (List.mem_append_right _ (List.mem_append_right _ (List.mem_append_right _ (List.mem_append_right _ (List.mem_append_right _ (List.mem_append_right _ (List.mem_append_right _ (List.mem_append_right _ (h))))))))))), g⟩
theorem zsel {i : Nat} {q : MethodName × Nat} (h : lw_privs[i]? = some q) : Cond.selects q.1.cls q.1 q.1 ∈ zTg := List.mem_filter.mpr ⟨List.mem_append_left _ (List.mem_map.mpr ⟨q, List.mem_of_getElem? h, rfl⟩), rfl⟩
theorem zwin {l : List Cond} (h : (l.all fun w => decide (w ∈ tables_1) && goodWord w) = true) : ∀ w ∈ l, w ∈ zTg := fun w hw => by
  have h1 := List.all_eq_true.mp h w hw
  rw [Bool.and_eq_true, decide_eq_true_eq] at h1
  exact List.mem_filter.mpr ⟨ztb h1.1, h1.2⟩
theorem zThi {l : List Cond} (h : (l.all fun w => decide (w ∈ tables_1) && (goodWord w || zNw w)) = true) : ∀ w ∈ l, w ∈ zTg ∨ w ∈ zTn := fun w hw => by
  have h1 := List.all_eq_true.mp h w hw
  rw [Bool.and_eq_true, decide_eq_true_eq, Bool.or_eq_true] at h1
  exact h1.2.elim (fun g => Or.inl (List.mem_filter.mpr ⟨ztb h1.1, g⟩)) (fun g => Or.inr (List.mem_filter.mpr ⟨ztb h1.1, g⟩))
theorem zws_1 : Cond.selects "Residueworks" ⟨"Residueworks", "numberOf", "(I)LResidueworks$Whole;"⟩ ⟨"Residueworks", "numberOf", "(I)LResidueworks$Whole;"⟩ ∈ zTg := zsel (i := 1) (q := (⟨"Residueworks", "numberOf", "(I)LResidueworks$Whole;"⟩, 10)) (by decide +kernel)
theorem zw_1_0 : (Jvm.Cond.initialized "ResidueworksLaw") ∈ zTg := zt_1 (i := 0) (by decide +kernel) rfl
theorem zw_1_1 : (Jvm.Cond.initialized "Residueworks") ∈ zTg := zt_1 (i := 1) (by decide +kernel) rfl
theorem zw_1_3 : (Jvm.Cond.initialized "Residueworks$Whole") ∈ zTg := zt_1 (i := 3) (by decide +kernel) rfl
theorem zw_1_10 : (Jvm.Cond.initialized "ResidueworksModel") ∈ zTg := zt_1 (i := 10) (by decide +kernel) rfl
theorem zw_1_20 : (Jvm.Cond.initialized "java/lang/System") ∈ zTg := zt_1 (i := 20) (by decide +kernel) rfl
theorem zw_1_24 : (Jvm.Cond.initialized "java/lang/IndexOutOfBoundsException") ∈ zTg := zt_1 (i := 24) (by decide +kernel) rfl
theorem zw_1_27 : (Jvm.Cond.initialized "java/lang/Integer") ∈ zTg := zt_1 (i := 27) (by decide +kernel) rfl
theorem zw_1_42 : (Jvm.Cond.classLink "ResidueworksLaw" (8 : Nat) "Residueworks") ∈ zTg := zt_1 (i := 42) (by decide +kernel) rfl
theorem zw_1_43 : (Jvm.Cond.instantiable "Residueworks" (10 : Nat)) ∈ zTg := zt_1 (i := 43) (by decide +kernel) rfl
theorem zw_1_44 : (Jvm.Cond.methodLink "ResidueworksLaw" (143 : Nat) ({ cls := "Residueworks", name := "<init>", desc := "()V" } : Jvm.MethodName)) ∈ zTg := zt_1 (i := 44) (by decide +kernel) rfl
theorem zw_1_45 : (Jvm.Cond.instanceMethod ({ cls := "Residueworks", name := "<init>", desc := "()V" } : Jvm.MethodName)) ∈ zTg := zt_1 (i := 45) (by decide +kernel) rfl
theorem zw_1_46 : (Jvm.Cond.code ({ cls := "Residueworks", name := "<init>", desc := "()V" } : Jvm.MethodName) prog_1_method_1_code (2 : Nat) (Option.none : Option Jvm.ClassFile.FieldType)) ∈ zTg := zt_1 (i := 46) (by decide +kernel) rfl
theorem zw_1_48 : (Jvm.Cond.instanceMethod ({ cls := "java/lang/Object", name := "<init>", desc := "()V" } : Jvm.MethodName)) ∈ zTg := zt_1 (i := 48) (by decide +kernel) rfl
theorem zw_1_49 : (Jvm.Cond.code ({ cls := "java/lang/Object", name := "<init>", desc := "()V" } : Jvm.MethodName) object_method_1_code (1 : Nat) (Option.none : Option Jvm.ClassFile.FieldType)) ∈ zTg := zt_1 (i := 49) (by decide +kernel) rfl
theorem zw_1_64 : (Jvm.Cond.fieldLink "Residueworks$Whole" (9 : Nat) "Residueworks$Whole" "limbs" "[I") ∈ zTg := zt_1 (i := 64) (by decide +kernel) rfl
theorem zw_1_66 : (Jvm.Cond.fieldLink "Residueworks$Whole" (13 : Nat) "Residueworks$Whole" "size" "I") ∈ zTg := zt_1 (i := 66) (by decide +kernel) rfl
theorem zw_1_69 : (Jvm.Cond.fieldLink "Residueworks$Whole" (17 : Nat) "Residueworks$Whole" "sign" "I") ∈ zTg := zt_1 (i := 69) (by decide +kernel) rfl
theorem zw_1_83 : (Jvm.Cond.arrayClass Jvm.ClassFile.FieldType.int) ∈ zTg := zt_1 (i := 83) (by decide +kernel) rfl
theorem zw_2_61 : (Jvm.Cond.instanceMethod ({ cls := "Residueworks$Whole", name := "becomeLong", desc := "(J)V" } : Jvm.MethodName)) ∈ zTg := zt_2 (i := 61) (by decide +kernel) rfl
theorem zw_2_62 : (Jvm.Cond.selects "Residueworks$Whole" ({ cls := "Residueworks$Whole", name := "becomeLong", desc := "(J)V" } : Jvm.MethodName) ({ cls := "Residueworks$Whole", name := "becomeLong", desc := "(J)V" } : Jvm.MethodName)) ∈ zTg := zt_2 (i := 62) (by decide +kernel) rfl
theorem zw_2_63 : (Jvm.Cond.code ({ cls := "Residueworks$Whole", name := "becomeLong", desc := "(J)V" } : Jvm.MethodName) prog_10_method_7_code (3 : Nat) (Option.none : Option Jvm.ClassFile.FieldType)) ∈ zTg := zt_2 (i := 63) (by decide +kernel) rfl
theorem zw_2_64 : (Jvm.Cond.methodLink "Residueworks$Whole" (30 : Nat) ({ cls := "Residueworks$Whole", name := "becomeUnsigned", desc := "(J)V" } : Jvm.MethodName)) ∈ zTg := zt_2 (i := 64) (by decide +kernel) rfl
theorem zw_2_65 : (Jvm.Cond.instanceMethod ({ cls := "Residueworks$Whole", name := "becomeUnsigned", desc := "(J)V" } : Jvm.MethodName)) ∈ zTg := zt_2 (i := 65) (by decide +kernel) rfl
theorem zw_2_66 : (Jvm.Cond.selects "Residueworks$Whole" ({ cls := "Residueworks$Whole", name := "becomeUnsigned", desc := "(J)V" } : Jvm.MethodName) ({ cls := "Residueworks$Whole", name := "becomeUnsigned", desc := "(J)V" } : Jvm.MethodName)) ∈ zTg := zt_2 (i := 66) (by decide +kernel) rfl
theorem zw_2_67 : (Jvm.Cond.code ({ cls := "Residueworks$Whole", name := "becomeUnsigned", desc := "(J)V" } : Jvm.MethodName) prog_10_method_8_code (3 : Nat) (Option.none : Option Jvm.ClassFile.FieldType)) ∈ zTg := zt_2 (i := 67) (by decide +kernel) rfl
theorem zw_2_68 : (Jvm.Cond.constantLong "Residueworks$Whole" (34 : Nat) (1073741823 : Int64)) ∈ zTg := zt_2 (i := 68) (by decide +kernel) rfl
theorem zw_2_69 : (Jvm.Cond.methodLink "Residueworks$Whole" (36 : Nat) ({ cls := "Residueworks$Whole", name := "setLimb", desc := "(II)V" } : Jvm.MethodName)) ∈ zTg := zt_2 (i := 69) (by decide +kernel) rfl
theorem zw_2_70 : (Jvm.Cond.instanceMethod ({ cls := "Residueworks$Whole", name := "setLimb", desc := "(II)V" } : Jvm.MethodName)) ∈ zTg := zt_2 (i := 70) (by decide +kernel) rfl
theorem zw_2_71 : (Jvm.Cond.selects "Residueworks$Whole" ({ cls := "Residueworks$Whole", name := "setLimb", desc := "(II)V" } : Jvm.MethodName) ({ cls := "Residueworks$Whole", name := "setLimb", desc := "(II)V" } : Jvm.MethodName)) ∈ zTg := zt_2 (i := 71) (by decide +kernel) rfl
theorem zw_2_72 : (Jvm.Cond.code ({ cls := "Residueworks$Whole", name := "setLimb", desc := "(II)V" } : Jvm.MethodName) prog_10_method_3_code (3 : Nat) (Option.none : Option Jvm.ClassFile.FieldType)) ∈ zTg := zt_2 (i := 72) (by decide +kernel) rfl
theorem zw_2_73 : (Jvm.Cond.methodLink "Residueworks$Whole" (40 : Nat) ({ cls := "Residueworks$Whole", name := "settle", desc := "(II)V" } : Jvm.MethodName)) ∈ zTg := zt_2 (i := 73) (by decide +kernel) rfl
theorem zw_2_74 : (Jvm.Cond.instanceMethod ({ cls := "Residueworks$Whole", name := "settle", desc := "(II)V" } : Jvm.MethodName)) ∈ zTg := zt_2 (i := 74) (by decide +kernel) rfl
theorem zw_2_75 : (Jvm.Cond.selects "Residueworks$Whole" ({ cls := "Residueworks$Whole", name := "settle", desc := "(II)V" } : Jvm.MethodName) ({ cls := "Residueworks$Whole", name := "settle", desc := "(II)V" } : Jvm.MethodName)) ∈ zTg := zt_2 (i := 75) (by decide +kernel) rfl
theorem zw_2_76 : (Jvm.Cond.code ({ cls := "Residueworks$Whole", name := "settle", desc := "(II)V" } : Jvm.MethodName) prog_10_method_4_code (4 : Nat) (Option.none : Option Jvm.ClassFile.FieldType)) ∈ zTg := zt_2 (i := 76) (by decide +kernel) rfl
theorem zw_2_125 : (Jvm.Cond.fieldLink "Residueworks" (11 : Nat) "Residueworks" "registers" "[LResidueworks$Whole;") ∈ zTg := zt_2 (i := 125) (by decide +kernel) rfl
theorem zw_2_156 : (Jvm.Cond.methodLink "ResidueworksLaw" (210 : Nat) ({ cls := "Residueworks", name := "erase", desc := "()I" } : Jvm.MethodName)) ∈ zTg := zt_2 (i := 156) (by decide +kernel) rfl
theorem zw_2_157 : (Jvm.Cond.instanceMethod ({ cls := "Residueworks", name := "erase", desc := "()I" } : Jvm.MethodName)) ∈ zTg := zt_2 (i := 157) (by decide +kernel) rfl
theorem zw_2_158 : (Jvm.Cond.selects "Residueworks" ({ cls := "Residueworks", name := "erase", desc := "()I" } : Jvm.MethodName) ({ cls := "Residueworks", name := "erase", desc := "()I" } : Jvm.MethodName)) ∈ zTg := zt_2 (i := 158) (by decide +kernel) rfl
theorem zw_2_159 : (Jvm.Cond.code ({ cls := "Residueworks", name := "erase", desc := "()I" } : Jvm.MethodName) prog_1_method_17_code (2 : Nat) (Option.some Jvm.ClassFile.FieldType.int)) ∈ zTg := zt_2 (i := 159) (by decide +kernel) rfl
theorem zw_2_160 : (Jvm.Cond.methodLink "ResidueworksLaw" (226 : Nat) ({ cls := "Residueworks", name := "clearRow", desc := "()I" } : Jvm.MethodName)) ∈ zTg := zt_2 (i := 160) (by decide +kernel) rfl
theorem zw_2_161 : (Jvm.Cond.instanceMethod ({ cls := "Residueworks", name := "clearRow", desc := "()I" } : Jvm.MethodName)) ∈ zTg := zt_2 (i := 161) (by decide +kernel) rfl
theorem zw_2_162 : (Jvm.Cond.selects "Residueworks" ({ cls := "Residueworks", name := "clearRow", desc := "()I" } : Jvm.MethodName) ({ cls := "Residueworks", name := "clearRow", desc := "()I" } : Jvm.MethodName)) ∈ zTg := zt_2 (i := 162) (by decide +kernel) rfl
theorem zw_2_163 : (Jvm.Cond.code ({ cls := "Residueworks", name := "clearRow", desc := "()I" } : Jvm.MethodName) prog_1_method_22_code (2 : Nat) (Option.some Jvm.ClassFile.FieldType.int)) ∈ zTg := zt_2 (i := 163) (by decide +kernel) rfl
theorem zw_2_164 : (Jvm.Cond.methodLink "ResidueworksLaw" (269 : Nat) ({ cls := "Residueworks", name := "forget", desc := "()I" } : Jvm.MethodName)) ∈ zTg := zt_2 (i := 164) (by decide +kernel) rfl
theorem zw_2_165 : (Jvm.Cond.instanceMethod ({ cls := "Residueworks", name := "forget", desc := "()I" } : Jvm.MethodName)) ∈ zTg := zt_2 (i := 165) (by decide +kernel) rfl
theorem zw_2_166 : (Jvm.Cond.selects "Residueworks" ({ cls := "Residueworks", name := "forget", desc := "()I" } : Jvm.MethodName) ({ cls := "Residueworks", name := "forget", desc := "()I" } : Jvm.MethodName)) ∈ zTg := zt_2 (i := 166) (by decide +kernel) rfl
theorem zw_2_167 : (Jvm.Cond.code ({ cls := "Residueworks", name := "forget", desc := "()I" } : Jvm.MethodName) prog_1_method_36_code (2 : Nat) (Option.some Jvm.ClassFile.FieldType.int)) ∈ zTg := zt_2 (i := 167) (by decide +kernel) rfl
theorem zw_2_168 : (Jvm.Cond.methodLink "ResidueworksLaw" (283 : Nat) ({ cls := "Residueworks", name := "meanLength", desc := "()D" } : Jvm.MethodName)) ∈ zTg := zt_2 (i := 168) (by decide +kernel) rfl
theorem zw_2_169 : (Jvm.Cond.instanceMethod ({ cls := "Residueworks", name := "meanLength", desc := "()D" } : Jvm.MethodName)) ∈ zTg := zt_2 (i := 169) (by decide +kernel) rfl
theorem zw_2_170 : (Jvm.Cond.selects "Residueworks" ({ cls := "Residueworks", name := "meanLength", desc := "()D" } : Jvm.MethodName) ({ cls := "Residueworks", name := "meanLength", desc := "()D" } : Jvm.MethodName)) ∈ zTg := zt_2 (i := 170) (by decide +kernel) rfl
theorem zw_2_171 : (Jvm.Cond.code ({ cls := "Residueworks", name := "meanLength", desc := "()D" } : Jvm.MethodName) prog_1_method_40_code (3 : Nat) (Option.some Jvm.ClassFile.FieldType.double)) ∈ zTg := zt_2 (i := 171) (by decide +kernel) rfl
theorem zw_2_172 : (Jvm.Cond.methodLink "Residueworks" (80 : Nat) ({ cls := "Residueworks$Whole", name := "bitLength", desc := "()I" } : Jvm.MethodName)) ∈ zTg := zt_2 (i := 172) (by decide +kernel) rfl
theorem zw_2_173 : (Jvm.Cond.instanceMethod ({ cls := "Residueworks$Whole", name := "bitLength", desc := "()I" } : Jvm.MethodName)) ∈ zTg := zt_2 (i := 173) (by decide +kernel) rfl
theorem zw_2_174 : (Jvm.Cond.selects "Residueworks$Whole" ({ cls := "Residueworks$Whole", name := "bitLength", desc := "()I" } : Jvm.MethodName) ({ cls := "Residueworks$Whole", name := "bitLength", desc := "()I" } : Jvm.MethodName)) ∈ zTg := zt_2 (i := 174) (by decide +kernel) rfl
theorem zw_2_175 : (Jvm.Cond.code ({ cls := "Residueworks$Whole", name := "bitLength", desc := "()I" } : Jvm.MethodName) prog_10_method_14_code (2 : Nat) (Option.some Jvm.ClassFile.FieldType.int)) ∈ zTg := zt_2 (i := 175) (by decide +kernel) rfl
theorem zw_2_176 : (Jvm.Cond.methodLink "Residueworks$Whole" (62 : Nat) ({ cls := "Residueworks$Whole", name := "amountLength", desc := "()I" } : Jvm.MethodName)) ∈ zTg := zt_2 (i := 176) (by decide +kernel) rfl
theorem zw_2_177 : (Jvm.Cond.instanceMethod ({ cls := "Residueworks$Whole", name := "amountLength", desc := "()I" } : Jvm.MethodName)) ∈ zTg := zt_2 (i := 177) (by decide +kernel) rfl
theorem zw_2_178 : (Jvm.Cond.selects "Residueworks$Whole" ({ cls := "Residueworks$Whole", name := "amountLength", desc := "()I" } : Jvm.MethodName) ({ cls := "Residueworks$Whole", name := "amountLength", desc := "()I" } : Jvm.MethodName)) ∈ zTg := zt_2 (i := 178) (by decide +kernel) rfl
theorem zw_2_179 : (Jvm.Cond.code ({ cls := "Residueworks$Whole", name := "amountLength", desc := "()I" } : Jvm.MethodName) prog_10_method_13_code (1 : Nat) (Option.some Jvm.ClassFile.FieldType.int)) ∈ zTg := zt_2 (i := 179) (by decide +kernel) rfl
theorem zw_2_180 : (Jvm.Cond.methodLink "Residueworks$Whole" (49 : Nat) ({ cls := "Residueworks$Whole", name := "limb", desc := "(I)I" } : Jvm.MethodName)) ∈ zTg := zt_2 (i := 180) (by decide +kernel) rfl
theorem zw_2_181 : (Jvm.Cond.instanceMethod ({ cls := "Residueworks$Whole", name := "limb", desc := "(I)I" } : Jvm.MethodName)) ∈ zTg := zt_2 (i := 181) (by decide +kernel) rfl
theorem zw_2_182 : (Jvm.Cond.selects "Residueworks$Whole" ({ cls := "Residueworks$Whole", name := "limb", desc := "(I)I" } : Jvm.MethodName) ({ cls := "Residueworks$Whole", name := "limb", desc := "(I)I" } : Jvm.MethodName)) ∈ zTg := zt_2 (i := 182) (by decide +kernel) rfl
theorem zw_2_183 : (Jvm.Cond.code ({ cls := "Residueworks$Whole", name := "limb", desc := "(I)I" } : Jvm.MethodName) prog_10_method_2_code (2 : Nat) (Option.some Jvm.ClassFile.FieldType.int)) ∈ zTg := zt_2 (i := 183) (by decide +kernel) rfl
theorem zw_2_184 : (Jvm.Cond.methodLink "Residueworks$Whole" (57 : Nat) ({ cls := "java/lang/Integer", name := "numberOfLeadingZeros", desc := "(I)I" } : Jvm.MethodName)) ∈ zTg := zt_2 (i := 184) (by decide +kernel) rfl
theorem zw_2_185 : (Jvm.Cond.static ({ cls := "java/lang/Integer", name := "numberOfLeadingZeros", desc := "(I)I" } : Jvm.MethodName)) ∈ zTg := zt_2 (i := 185) (by decide +kernel) rfl
theorem zw_2_186 : (Jvm.Cond.code ({ cls := "java/lang/Integer", name := "numberOfLeadingZeros", desc := "(I)I" } : Jvm.MethodName) prog_27_method_47_code (2 : Nat) (Option.some Jvm.ClassFile.FieldType.int)) ∈ zTg := zt_2 (i := 186) (by decide +kernel) rfl
theorem zw_2_187 : (Jvm.Cond.constant "java/lang/Integer" (264 : Nat) (65536 : Int32)) ∈ zTg := zt_2 (i := 187) (by decide +kernel) rfl
theorem zw_2_188 : (Jvm.Cond.methodLink "Residueworks$Whole" (66 : Nat) ({ cls := "Residueworks$Whole", name := "lowestBit", desc := "()I" } : Jvm.MethodName)) ∈ zTg := zt_2 (i := 188) (by decide +kernel) rfl
theorem zw_2_189 : (Jvm.Cond.instanceMethod ({ cls := "Residueworks$Whole", name := "lowestBit", desc := "()I" } : Jvm.MethodName)) ∈ zTg := zt_2 (i := 189) (by decide +kernel) rfl
theorem zw_2_190 : (Jvm.Cond.selects "Residueworks$Whole" ({ cls := "Residueworks$Whole", name := "lowestBit", desc := "()I" } : Jvm.MethodName) ({ cls := "Residueworks$Whole", name := "lowestBit", desc := "()I" } : Jvm.MethodName)) ∈ zTg := zt_2 (i := 190) (by decide +kernel) rfl
theorem zw_2_191 : (Jvm.Cond.code ({ cls := "Residueworks$Whole", name := "lowestBit", desc := "()I" } : Jvm.MethodName) prog_10_method_15_code (2 : Nat) (Option.some Jvm.ClassFile.FieldType.int)) ∈ zTg := zt_2 (i := 191) (by decide +kernel) rfl
theorem zw_2_196 : (Jvm.Cond.methodLink "ResidueworksLaw" (288 : Nat) ({ cls := "Residueworks", name := "checksum", desc := "()J" } : Jvm.MethodName)) ∈ zTg := zt_2 (i := 196) (by decide +kernel) rfl
theorem zw_2_197 : (Jvm.Cond.instanceMethod ({ cls := "Residueworks", name := "checksum", desc := "()J" } : Jvm.MethodName)) ∈ zTg := zt_2 (i := 197) (by decide +kernel) rfl
theorem zw_2_198 : (Jvm.Cond.selects "Residueworks" ({ cls := "Residueworks", name := "checksum", desc := "()J" } : Jvm.MethodName) ({ cls := "Residueworks", name := "checksum", desc := "()J" } : Jvm.MethodName)) ∈ zTg := zt_2 (i := 198) (by decide +kernel) rfl
theorem zw_2_199 : (Jvm.Cond.code ({ cls := "Residueworks", name := "checksum", desc := "()J" } : Jvm.MethodName) prog_1_method_41_code (4 : Nat) (Option.some Jvm.ClassFile.FieldType.long)) ∈ zTg := zt_2 (i := 199) (by decide +kernel) rfl
theorem zw_2_223 : (Jvm.Cond.methodLink "ResidueworksLaw" (149 : Nat) ({ cls := "ResidueworksLaw", name := "put", desc := "(LResidueworks;IJ[J)I" } : Jvm.MethodName)) ∈ zTg := zt_2 (i := 223) (by decide +kernel) rfl
theorem zw_2_224 : (Jvm.Cond.static ({ cls := "ResidueworksLaw", name := "put", desc := "(LResidueworks;IJ[J)I" } : Jvm.MethodName)) ∈ zTg := zt_2 (i := 224) (by decide +kernel) rfl
theorem zw_2_225 : (Jvm.Cond.codeWith ({ cls := "ResidueworksLaw", name := "put", desc := "(LResidueworks;IJ[J)I" } : Jvm.MethodName) method_3_code (6 : Nat) (Option.some Jvm.ClassFile.FieldType.int) [((0 : Nat), (11 : Nat), (14 : Nat), (13 : Nat))]) ∈ zTg := zt_2 (i := 225) (by decide +kernel) rfl
theorem zw_2_226 : (Jvm.Cond.classLink "ResidueworksLaw" (13 : Nat) "java/lang/IndexOutOfBoundsException") ∈ zTg := zt_2 (i := 226) (by decide +kernel) rfl
theorem zw_3_65 : (Jvm.Cond.methodLink "ResidueworksLaw" (7 : Nat) ({ cls := "Residueworks", name := "put", desc := "(IJ)I" } : Jvm.MethodName)) ∈ zTg := zt_3 (i := 65) (by decide +kernel) rfl
theorem zw_3_66 : (Jvm.Cond.instanceMethod ({ cls := "Residueworks", name := "put", desc := "(IJ)I" } : Jvm.MethodName)) ∈ zTg := zt_3 (i := 66) (by decide +kernel) rfl
theorem zw_3_67 : (Jvm.Cond.selects "Residueworks" ({ cls := "Residueworks", name := "put", desc := "(IJ)I" } : Jvm.MethodName) ({ cls := "Residueworks", name := "put", desc := "(IJ)I" } : Jvm.MethodName)) ∈ zTg := zt_3 (i := 67) (by decide +kernel) rfl
theorem zw_3_68 : (Jvm.Cond.code ({ cls := "Residueworks", name := "put", desc := "(IJ)I" } : Jvm.MethodName) prog_1_method_2_code (5 : Nat) (Option.some Jvm.ClassFile.FieldType.int)) ∈ zTg := zt_3 (i := 68) (by decide +kernel) rfl
theorem zw_3_69 : (Jvm.Cond.methodLink "Residueworks" (72 : Nat) ({ cls := "Residueworks", name := "numberOf", desc := "(I)LResidueworks$Whole;" } : Jvm.MethodName)) ∈ zTg := zt_3 (i := 69) (by decide +kernel) rfl
theorem zw_3_71 : (Jvm.Cond.instanceMethod ({ cls := "Residueworks", name := "numberOf", desc := "(I)LResidueworks$Whole;" } : Jvm.MethodName)) ∈ zTg := zt_3 (i := 71) (by decide +kernel) rfl
theorem zw_3_72 : (Jvm.Cond.code ({ cls := "Residueworks", name := "numberOf", desc := "(I)LResidueworks$Whole;" } : Jvm.MethodName) prog_1_method_43_code (2 : Nat) (Option.some (Jvm.ClassFile.FieldType.object "Residueworks$Whole"))) ∈ zTg := zt_3 (i := 72) (by decide +kernel) rfl
theorem zw_3_73 : (Jvm.Cond.classLink "Residueworks" (201 : Nat) "java/lang/IndexOutOfBoundsException") ∈ zTg := zt_3 (i := 73) (by decide +kernel) rfl
theorem zw_3_75 : (Jvm.Cond.castable "java/lang/IndexOutOfBoundsException" "java/lang/IndexOutOfBoundsException") ∈ zTn := zn_3 (i := 75) (by decide +kernel) rfl
theorem zw_3_86 : (Jvm.Cond.methodLink "Residueworks" (76 : Nat) ({ cls := "Residueworks$Whole", name := "becomeLong", desc := "(J)V" } : Jvm.MethodName)) ∈ zTg := zt_3 (i := 86) (by decide +kernel) rfl
theorem zw_3_87 : (Jvm.Cond.methodLink "ResidueworksLaw" (159 : Nat) ({ cls := "ResidueworksLaw", name := "longer", desc := "(LResidueworks;IJ[J)I" } : Jvm.MethodName)) ∈ zTg := zt_3 (i := 87) (by decide +kernel) rfl
theorem zw_3_88 : (Jvm.Cond.static ({ cls := "ResidueworksLaw", name := "longer", desc := "(LResidueworks;IJ[J)I" } : Jvm.MethodName)) ∈ zTg := zt_3 (i := 88) (by decide +kernel) rfl
theorem zw_3_89 : (Jvm.Cond.codeWith ({ cls := "ResidueworksLaw", name := "longer", desc := "(LResidueworks;IJ[J)I" } : Jvm.MethodName) method_4_code (6 : Nat) (Option.some Jvm.ClassFile.FieldType.int) [((0 : Nat), (11 : Nat), (14 : Nat), (13 : Nat)), ((0 : Nat), (11 : Nat), (18 : Nat), (18 : Nat))]) ∈ zTg := zt_3 (i := 89) (by decide +kernel) rfl
theorem zw_3_137 : (Jvm.Cond.static ({ cls := "java/lang/System", name := "arraycopy", desc := "(Ljava/lang/Object;ILjava/lang/Object;II)V" } : Jvm.MethodName)) ∈ zTg := zt_3 (i := 137) (by decide +kernel) rfl
theorem zw_3_138 : (Jvm.Cond.native ({ cls := "java/lang/System", name := "arraycopy", desc := "(Ljava/lang/Object;ILjava/lang/Object;II)V" } : Jvm.MethodName)) ∈ zTg := zt_3 (i := 138) (by decide +kernel) rfl
theorem zw_3_139 : (Jvm.Cond.methodLink "ResidueworksLaw" (162 : Nat) ({ cls := "ResidueworksLaw", name := "copy", desc := "(LResidueworks;II[J)I" } : Jvm.MethodName)) ∈ zTg := zt_3 (i := 139) (by decide +kernel) rfl
theorem zw_3_140 : (Jvm.Cond.static ({ cls := "ResidueworksLaw", name := "copy", desc := "(LResidueworks;II[J)I" } : Jvm.MethodName)) ∈ zTg := zt_3 (i := 140) (by decide +kernel) rfl
theorem zw_3_141 : (Jvm.Cond.codeWith ({ cls := "ResidueworksLaw", name := "copy", desc := "(LResidueworks;II[J)I" } : Jvm.MethodName) method_5_code (5 : Nat) (Option.some Jvm.ClassFile.FieldType.int) [((0 : Nat), (10 : Nat), (13 : Nat), (13 : Nat))]) ∈ zTg := zt_3 (i := 141) (by decide +kernel) rfl
theorem zw_3_146 : (Jvm.Cond.methodLink "ResidueworksLaw" (166 : Nat) ({ cls := "ResidueworksLaw", name := "part", desc := "(LResidueworks;II[J)I" } : Jvm.MethodName)) ∈ zTg := zt_3 (i := 146) (by decide +kernel) rfl
theorem zw_3_147 : (Jvm.Cond.static ({ cls := "ResidueworksLaw", name := "part", desc := "(LResidueworks;II[J)I" } : Jvm.MethodName)) ∈ zTg := zt_3 (i := 147) (by decide +kernel) rfl
theorem zw_3_148 : (Jvm.Cond.codeWith ({ cls := "ResidueworksLaw", name := "part", desc := "(LResidueworks;II[J)I" } : Jvm.MethodName) method_6_code (5 : Nat) (Option.some Jvm.ClassFile.FieldType.int) [((0 : Nat), (9 : Nat), (12 : Nat), (13 : Nat)), ((0 : Nat), (9 : Nat), (16 : Nat), (28 : Nat))]) ∈ zTg := zt_3 (i := 148) (by decide +kernel) rfl
theorem zw_3_174 : (Jvm.Cond.methodLink "ResidueworksLaw" (169 : Nat) ({ cls := "ResidueworksLaw", name := "tells", desc := "(LResidueworks;IC[J)I" } : Jvm.MethodName)) ∈ zTg := zt_3 (i := 174) (by decide +kernel) rfl
theorem zw_3_175 : (Jvm.Cond.static ({ cls := "ResidueworksLaw", name := "tells", desc := "(LResidueworks;IC[J)I" } : Jvm.MethodName)) ∈ zTg := zt_3 (i := 175) (by decide +kernel) rfl
theorem zw_3_176 : (Jvm.Cond.codeWith ({ cls := "ResidueworksLaw", name := "tells", desc := "(LResidueworks;IC[J)I" } : Jvm.MethodName) method_7_code (5 : Nat) (Option.some Jvm.ClassFile.FieldType.int) [((0 : Nat), (10 : Nat), (13 : Nat), (13 : Nat)), ((0 : Nat), (10 : Nat), (17 : Nat), (28 : Nat))]) ∈ zTg := zt_3 (i := 176) (by decide +kernel) rfl
theorem zw_3_193 : (Jvm.Cond.methodLink "ResidueworksLaw" (173 : Nat) ({ cls := "ResidueworksLaw", name := "exact", desc := "(LResidueworks;I[J)I" } : Jvm.MethodName)) ∈ zTg := zt_3 (i := 193) (by decide +kernel) rfl
theorem zw_3_194 : (Jvm.Cond.static ({ cls := "ResidueworksLaw", name := "exact", desc := "(LResidueworks;I[J)I" } : Jvm.MethodName)) ∈ zTg := zt_3 (i := 194) (by decide +kernel) rfl
theorem zw_3_195 : (Jvm.Cond.codeWith ({ cls := "ResidueworksLaw", name := "exact", desc := "(LResidueworks;I[J)I" } : Jvm.MethodName) method_8_code (4 : Nat) (Option.some Jvm.ClassFile.FieldType.int) [((0 : Nat), (9 : Nat), (12 : Nat), (13 : Nat)), ((0 : Nat), (9 : Nat), (15 : Nat), (38 : Nat))]) ∈ zTg := zt_3 (i := 195) (by decide +kernel) rfl
theorem zw_3_217 : (Jvm.Cond.methodLink "ResidueworksLaw" (177 : Nat) ({ cls := "ResidueworksLaw", name := "compare", desc := "(LResidueworks;II[J)I" } : Jvm.MethodName)) ∈ zTg := zt_3 (i := 217) (by decide +kernel) rfl
theorem zw_3_218 : (Jvm.Cond.static ({ cls := "ResidueworksLaw", name := "compare", desc := "(LResidueworks;II[J)I" } : Jvm.MethodName)) ∈ zTg := zt_3 (i := 218) (by decide +kernel) rfl
theorem zw_3_219 : (Jvm.Cond.codeWith ({ cls := "ResidueworksLaw", name := "compare", desc := "(LResidueworks;II[J)I" } : Jvm.MethodName) method_9_code (5 : Nat) (Option.some Jvm.ClassFile.FieldType.int) [((0 : Nat), (10 : Nat), (13 : Nat), (13 : Nat))]) ∈ zTg := zt_3 (i := 219) (by decide +kernel) rfl
theorem zw_3_232 : (Jvm.Cond.methodLink "ResidueworksLaw" (180 : Nat) ({ cls := "ResidueworksLaw", name := "does", desc := "(LResidueworks;CIII[J)I" } : Jvm.MethodName)) ∈ zTg := zt_3 (i := 232) (by decide +kernel) rfl
theorem zw_3_233 : (Jvm.Cond.static ({ cls := "ResidueworksLaw", name := "does", desc := "(LResidueworks;CIII[J)I" } : Jvm.MethodName)) ∈ zTg := zt_3 (i := 233) (by decide +kernel) rfl
theorem zw_3_234 : (Jvm.Cond.codeWith ({ cls := "ResidueworksLaw", name := "does", desc := "(LResidueworks;CIII[J)I" } : Jvm.MethodName) method_10_code (7 : Nat) (Option.some Jvm.ClassFile.FieldType.int) [((0 : Nat), (14 : Nat), (17 : Nat), (13 : Nat)), ((0 : Nat), (14 : Nat), (21 : Nat), (28 : Nat)), ((0 : Nat), (14 : Nat), (25 : Nat), (38 : Nat)), ((0 : Nat), (14 : Nat), (29 : Nat), (18 : Nat))]) ∈ zTg := zt_3 (i := 234) (by decide +kernel) rfl
theorem zw_4_85 : (Jvm.Cond.methodLink "ResidueworksLaw" (184 : Nat) ({ cls := "ResidueworksLaw", name := "alone", desc := "(LResidueworks;CII[J)I" } : Jvm.MethodName)) ∈ zTg := zt_4 (i := 85) (by decide +kernel) rfl
theorem zw_4_86 : (Jvm.Cond.static ({ cls := "ResidueworksLaw", name := "alone", desc := "(LResidueworks;CII[J)I" } : Jvm.MethodName)) ∈ zTg := zt_4 (i := 86) (by decide +kernel) rfl
theorem zw_4_87 : (Jvm.Cond.codeWith ({ cls := "ResidueworksLaw", name := "alone", desc := "(LResidueworks;CII[J)I" } : Jvm.MethodName) method_11_code (6 : Nat) (Option.some Jvm.ClassFile.FieldType.int) [((0 : Nat), (12 : Nat), (15 : Nat), (13 : Nat)), ((0 : Nat), (12 : Nat), (19 : Nat), (28 : Nat)), ((0 : Nat), (12 : Nat), (23 : Nat), (38 : Nat)), ((0 : Nat), (12 : Nat), (27 : Nat), (18 : Nat))]) ∈ zTg := zt_4 (i := 87) (by decide +kernel) rfl
theorem zw_4_118 : (Jvm.Cond.methodLink "ResidueworksLaw" (188 : Nat) ({ cls := "ResidueworksLaw", name := "shifts", desc := "(LResidueworks;III[J)I" } : Jvm.MethodName)) ∈ zTg := zt_4 (i := 118) (by decide +kernel) rfl
theorem zw_4_119 : (Jvm.Cond.static ({ cls := "ResidueworksLaw", name := "shifts", desc := "(LResidueworks;III[J)I" } : Jvm.MethodName)) ∈ zTg := zt_4 (i := 119) (by decide +kernel) rfl
theorem zw_4_120 : (Jvm.Cond.codeWith ({ cls := "ResidueworksLaw", name := "shifts", desc := "(LResidueworks;III[J)I" } : Jvm.MethodName) method_12_code (6 : Nat) (Option.some Jvm.ClassFile.FieldType.int) [((0 : Nat), (12 : Nat), (15 : Nat), (13 : Nat)), ((0 : Nat), (12 : Nat), (19 : Nat), (28 : Nat)), ((0 : Nat), (12 : Nat), (23 : Nat), (18 : Nat))]) ∈ zTg := zt_4 (i := 120) (by decide +kernel) rfl
theorem zw_4_134 : (Jvm.Cond.methodLink "ResidueworksLaw" (192 : Nat) ({ cls := "ResidueworksLaw", name := "bit", desc := "(LResidueworks;II[J)I" } : Jvm.MethodName)) ∈ zTg := zt_4 (i := 134) (by decide +kernel) rfl
theorem zw_4_135 : (Jvm.Cond.static ({ cls := "ResidueworksLaw", name := "bit", desc := "(LResidueworks;II[J)I" } : Jvm.MethodName)) ∈ zTg := zt_4 (i := 135) (by decide +kernel) rfl
theorem zw_4_136 : (Jvm.Cond.codeWith ({ cls := "ResidueworksLaw", name := "bit", desc := "(LResidueworks;II[J)I" } : Jvm.MethodName) method_13_code (5 : Nat) (Option.some Jvm.ClassFile.FieldType.int) [((0 : Nat), (17 : Nat), (20 : Nat), (13 : Nat)), ((0 : Nat), (17 : Nat), (24 : Nat), (28 : Nat))]) ∈ zTg := zt_4 (i := 136) (by decide +kernel) rfl
theorem zw_4_141 : (Jvm.Cond.methodLink "ResidueworksLaw" (195 : Nat) ({ cls := "ResidueworksLaw", name := "setBit", desc := "(LResidueworks;IIC[J)I" } : Jvm.MethodName)) ∈ zTg := zt_4 (i := 141) (by decide +kernel) rfl
theorem zw_4_142 : (Jvm.Cond.static ({ cls := "ResidueworksLaw", name := "setBit", desc := "(LResidueworks;IIC[J)I" } : Jvm.MethodName)) ∈ zTg := zt_4 (i := 142) (by decide +kernel) rfl
theorem zw_4_143 : (Jvm.Cond.codeWith ({ cls := "ResidueworksLaw", name := "setBit", desc := "(LResidueworks;IIC[J)I" } : Jvm.MethodName) method_14_code (6 : Nat) (Option.some Jvm.ClassFile.FieldType.int) [((0 : Nat), (12 : Nat), (15 : Nat), (13 : Nat)), ((0 : Nat), (12 : Nat), (19 : Nat), (28 : Nat))]) ∈ zTg := zt_4 (i := 143) (by decide +kernel) rfl
theorem zw_4_150 : (Jvm.Cond.methodLink "ResidueworksLaw" (199 : Nat) ({ cls := "ResidueworksLaw", name := "power", desc := "(LResidueworks;III[J)I" } : Jvm.MethodName)) ∈ zTg := zt_4 (i := 150) (by decide +kernel) rfl
theorem zw_4_151 : (Jvm.Cond.static ({ cls := "ResidueworksLaw", name := "power", desc := "(LResidueworks;III[J)I" } : Jvm.MethodName)) ∈ zTg := zt_4 (i := 151) (by decide +kernel) rfl
theorem zw_4_152 : (Jvm.Cond.codeWith ({ cls := "ResidueworksLaw", name := "power", desc := "(LResidueworks;III[J)I" } : Jvm.MethodName) method_15_code (6 : Nat) (Option.some Jvm.ClassFile.FieldType.int) [((0 : Nat), (12 : Nat), (15 : Nat), (13 : Nat)), ((0 : Nat), (12 : Nat), (19 : Nat), (28 : Nat)), ((0 : Nat), (12 : Nat), (23 : Nat), (18 : Nat))]) ∈ zTg := zt_4 (i := 152) (by decide +kernel) rfl
theorem zw_4_158 : (Jvm.Cond.methodLink "ResidueworksLaw" (202 : Nat) ({ cls := "ResidueworksLaw", name := "divides", desc := "(LResidueworks;IIII[J)I" } : Jvm.MethodName)) ∈ zTg := zt_4 (i := 158) (by decide +kernel) rfl
theorem zw_4_159 : (Jvm.Cond.static ({ cls := "ResidueworksLaw", name := "divides", desc := "(LResidueworks;IIII[J)I" } : Jvm.MethodName)) ∈ zTg := zt_4 (i := 159) (by decide +kernel) rfl
theorem zw_4_160 : (Jvm.Cond.codeWith ({ cls := "ResidueworksLaw", name := "divides", desc := "(LResidueworks;IIII[J)I" } : Jvm.MethodName) method_16_code (7 : Nat) (Option.some Jvm.ClassFile.FieldType.int) [((0 : Nat), (14 : Nat), (17 : Nat), (13 : Nat)), ((0 : Nat), (14 : Nat), (21 : Nat), (28 : Nat)), ((0 : Nat), (14 : Nat), (25 : Nat), (38 : Nat)), ((0 : Nat), (14 : Nat), (29 : Nat), (18 : Nat))]) ∈ zTg := zt_4 (i := 160) (by decide +kernel) rfl
theorem zw_4_166 : (Jvm.Cond.methodLink "ResidueworksLaw" (206 : Nat) ({ cls := "ResidueworksLaw", name := "type", desc := "(LResidueworks;C[J)I" } : Jvm.MethodName)) ∈ zTg := zt_4 (i := 166) (by decide +kernel) rfl
theorem zw_4_167 : (Jvm.Cond.static ({ cls := "ResidueworksLaw", name := "type", desc := "(LResidueworks;C[J)I" } : Jvm.MethodName)) ∈ zTg := zt_4 (i := 167) (by decide +kernel) rfl
theorem zw_4_168 : (Jvm.Cond.codeWith ({ cls := "ResidueworksLaw", name := "type", desc := "(LResidueworks;C[J)I" } : Jvm.MethodName) method_17_code (4 : Nat) (Option.some Jvm.ClassFile.FieldType.int) [((0 : Nat), (9 : Nat), (12 : Nat), (28 : Nat)), ((0 : Nat), (9 : Nat), (15 : Nat), (18 : Nat))]) ∈ zTg := zt_4 (i := 168) (by decide +kernel) rfl
theorem zw_4_182 : (Jvm.Cond.methodLink "ResidueworksLaw" (214 : Nat) ({ cls := "ResidueworksLaw", name := "signAt", desc := "(LResidueworks;I[J)I" } : Jvm.MethodName)) ∈ zTg := zt_4 (i := 182) (by decide +kernel) rfl
theorem zw_4_183 : (Jvm.Cond.static ({ cls := "ResidueworksLaw", name := "signAt", desc := "(LResidueworks;I[J)I" } : Jvm.MethodName)) ∈ zTg := zt_4 (i := 183) (by decide +kernel) rfl
theorem zw_4_184 : (Jvm.Cond.codeWith ({ cls := "ResidueworksLaw", name := "signAt", desc := "(LResidueworks;I[J)I" } : Jvm.MethodName) method_18_code (4 : Nat) (Option.some Jvm.ClassFile.FieldType.int) [((0 : Nat), (9 : Nat), (12 : Nat), (13 : Nat))]) ∈ zTg := zt_4 (i := 184) (by decide +kernel) rfl
theorem zw_4_190 : (Jvm.Cond.methodLink "ResidueworksLaw" (217 : Nat) ({ cls := "ResidueworksLaw", name := "read", desc := "(LResidueworks;II[J)I" } : Jvm.MethodName)) ∈ zTg := zt_4 (i := 190) (by decide +kernel) rfl
theorem zw_4_191 : (Jvm.Cond.static ({ cls := "ResidueworksLaw", name := "read", desc := "(LResidueworks;II[J)I" } : Jvm.MethodName)) ∈ zTg := zt_4 (i := 191) (by decide +kernel) rfl
theorem zw_4_192 : (Jvm.Cond.codeWith ({ cls := "ResidueworksLaw", name := "read", desc := "(LResidueworks;II[J)I" } : Jvm.MethodName) method_19_code (5 : Nat) (Option.some Jvm.ClassFile.FieldType.int) [((0 : Nat), (10 : Nat), (13 : Nat), (13 : Nat)), ((0 : Nat), (10 : Nat), (17 : Nat), (28 : Nat)), ((0 : Nat), (10 : Nat), (21 : Nat), (18 : Nat))]) ∈ zTg := zt_4 (i := 192) (by decide +kernel) rfl
theorem zw_4_209 : (Jvm.Cond.methodLink "ResidueworksLaw" (220 : Nat) ({ cls := "ResidueworksLaw", name := "write", desc := "(LResidueworks;II[J)I" } : Jvm.MethodName)) ∈ zTg := zt_4 (i := 209) (by decide +kernel) rfl
theorem zw_4_210 : (Jvm.Cond.static ({ cls := "ResidueworksLaw", name := "write", desc := "(LResidueworks;II[J)I" } : Jvm.MethodName)) ∈ zTg := zt_4 (i := 210) (by decide +kernel) rfl
theorem zw_4_211 : (Jvm.Cond.codeWith ({ cls := "ResidueworksLaw", name := "write", desc := "(LResidueworks;II[J)I" } : Jvm.MethodName) method_20_code (5 : Nat) (Option.some Jvm.ClassFile.FieldType.int) [((0 : Nat), (10 : Nat), (13 : Nat), (13 : Nat)), ((0 : Nat), (10 : Nat), (17 : Nat), (28 : Nat))]) ∈ zTg := zt_4 (i := 211) (by decide +kernel) rfl
theorem zw_4_233 : (Jvm.Cond.methodLink "ResidueworksLaw" (223 : Nat) ({ cls := "ResidueworksLaw", name := "push", desc := "(LResidueworks;I[J)I" } : Jvm.MethodName)) ∈ zTg := zt_4 (i := 233) (by decide +kernel) rfl
theorem zw_4_234 : (Jvm.Cond.static ({ cls := "ResidueworksLaw", name := "push", desc := "(LResidueworks;I[J)I" } : Jvm.MethodName)) ∈ zTg := zt_4 (i := 234) (by decide +kernel) rfl
theorem zw_4_235 : (Jvm.Cond.codeWith ({ cls := "ResidueworksLaw", name := "push", desc := "(LResidueworks;I[J)I" } : Jvm.MethodName) method_21_code (4 : Nat) (Option.some Jvm.ClassFile.FieldType.int) [((0 : Nat), (9 : Nat), (12 : Nat), (28 : Nat)), ((0 : Nat), (9 : Nat), (15 : Nat), (18 : Nat))]) ∈ zTg := zt_4 (i := 235) (by decide +kernel) rfl
theorem zw_5_9 : (Jvm.Cond.methodLink "ResidueworksLaw" (230 : Nat) ({ cls := "ResidueworksLaw", name := "fromRow", desc := "(LResidueworks;I[J)I" } : Jvm.MethodName)) ∈ zTg := zt_5 (i := 9) (by decide +kernel) rfl
theorem zw_5_10 : (Jvm.Cond.static ({ cls := "ResidueworksLaw", name := "fromRow", desc := "(LResidueworks;I[J)I" } : Jvm.MethodName)) ∈ zTg := zt_5 (i := 10) (by decide +kernel) rfl
theorem zw_5_11 : (Jvm.Cond.codeWith ({ cls := "ResidueworksLaw", name := "fromRow", desc := "(LResidueworks;I[J)I" } : Jvm.MethodName) method_22_code (4 : Nat) (Option.some Jvm.ClassFile.FieldType.int) [((0 : Nat), (9 : Nat), (12 : Nat), (13 : Nat)), ((0 : Nat), (9 : Nat), (15 : Nat), (18 : Nat))]) ∈ zTg := zt_5 (i := 11) (by decide +kernel) rfl
theorem zw_5_25 : (Jvm.Cond.methodLink "ResidueworksLaw" (233 : Nat) ({ cls := "ResidueworksLaw", name := "toRow", desc := "(LResidueworks;I[J)I" } : Jvm.MethodName)) ∈ zTg := zt_5 (i := 25) (by decide +kernel) rfl
theorem zw_5_26 : (Jvm.Cond.static ({ cls := "ResidueworksLaw", name := "toRow", desc := "(LResidueworks;I[J)I" } : Jvm.MethodName)) ∈ zTg := zt_5 (i := 26) (by decide +kernel) rfl
theorem zw_5_27 : (Jvm.Cond.codeWith ({ cls := "ResidueworksLaw", name := "toRow", desc := "(LResidueworks;I[J)I" } : Jvm.MethodName) method_23_code (4 : Nat) (Option.some Jvm.ClassFile.FieldType.int) [((0 : Nat), (9 : Nat), (12 : Nat), (13 : Nat))]) ∈ zTg := zt_5 (i := 27) (by decide +kernel) rfl
theorem zw_5_39 : (Jvm.Cond.methodLink "ResidueworksLaw" (236 : Nat) ({ cls := "ResidueworksLaw", name := "byteAt", desc := "(LResidueworks;I[J)I" } : Jvm.MethodName)) ∈ zTg := zt_5 (i := 39) (by decide +kernel) rfl
theorem zw_5_40 : (Jvm.Cond.static ({ cls := "ResidueworksLaw", name := "byteAt", desc := "(LResidueworks;I[J)I" } : Jvm.MethodName)) ∈ zTg := zt_5 (i := 40) (by decide +kernel) rfl
theorem zw_5_41 : (Jvm.Cond.codeWith ({ cls := "ResidueworksLaw", name := "byteAt", desc := "(LResidueworks;I[J)I" } : Jvm.MethodName) method_24_code (4 : Nat) (Option.some Jvm.ClassFile.FieldType.int) [((0 : Nat), (9 : Nat), (12 : Nat), (13 : Nat))]) ∈ zTg := zt_5 (i := 41) (by decide +kernel) rfl
theorem zw_5_46 : (Jvm.Cond.methodLink "ResidueworksLaw" (239 : Nat) ({ cls := "ResidueworksLaw", name := "modPower", desc := "(LResidueworks;IIII[J)I" } : Jvm.MethodName)) ∈ zTg := zt_5 (i := 46) (by decide +kernel) rfl
theorem zw_5_47 : (Jvm.Cond.static ({ cls := "ResidueworksLaw", name := "modPower", desc := "(LResidueworks;IIII[J)I" } : Jvm.MethodName)) ∈ zTg := zt_5 (i := 47) (by decide +kernel) rfl
theorem zw_5_48 : (Jvm.Cond.codeWith ({ cls := "ResidueworksLaw", name := "modPower", desc := "(LResidueworks;IIII[J)I" } : Jvm.MethodName) method_25_code (7 : Nat) (Option.some Jvm.ClassFile.FieldType.int) [((0 : Nat), (14 : Nat), (17 : Nat), (13 : Nat)), ((0 : Nat), (14 : Nat), (21 : Nat), (38 : Nat))]) ∈ zTg := zt_5 (i := 48) (by decide +kernel) rfl
theorem zw_5_77 : (Jvm.Cond.methodLink "ResidueworksLaw" (242 : Nat) ({ cls := "ResidueworksLaw", name := "inverse", desc := "(LResidueworks;III[J)I" } : Jvm.MethodName)) ∈ zTg := zt_5 (i := 77) (by decide +kernel) rfl
theorem zw_5_78 : (Jvm.Cond.static ({ cls := "ResidueworksLaw", name := "inverse", desc := "(LResidueworks;III[J)I" } : Jvm.MethodName)) ∈ zTg := zt_5 (i := 78) (by decide +kernel) rfl
theorem zw_5_79 : (Jvm.Cond.codeWith ({ cls := "ResidueworksLaw", name := "inverse", desc := "(LResidueworks;III[J)I" } : Jvm.MethodName) method_26_code (6 : Nat) (Option.some Jvm.ClassFile.FieldType.int) [((0 : Nat), (12 : Nat), (15 : Nat), (13 : Nat)), ((0 : Nat), (12 : Nat), (19 : Nat), (38 : Nat))]) ∈ zTg := zt_5 (i := 79) (by decide +kernel) rfl
theorem zw_5_84 : (Jvm.Cond.methodLink "ResidueworksLaw" (245 : Nat) ({ cls := "ResidueworksLaw", name := "symbol", desc := "(LResidueworks;II[J)I" } : Jvm.MethodName)) ∈ zTg := zt_5 (i := 84) (by decide +kernel) rfl
theorem zw_5_85 : (Jvm.Cond.static ({ cls := "ResidueworksLaw", name := "symbol", desc := "(LResidueworks;II[J)I" } : Jvm.MethodName)) ∈ zTg := zt_5 (i := 85) (by decide +kernel) rfl
theorem zw_5_86 : (Jvm.Cond.codeWith ({ cls := "ResidueworksLaw", name := "symbol", desc := "(LResidueworks;II[J)I" } : Jvm.MethodName) method_27_code (5 : Nat) (Option.some Jvm.ClassFile.FieldType.int) [((0 : Nat), (10 : Nat), (13 : Nat), (13 : Nat)), ((0 : Nat), (10 : Nat), (17 : Nat), (38 : Nat))]) ∈ zTg := zt_5 (i := 86) (by decide +kernel) rfl
theorem zw_5_99 : (Jvm.Cond.methodLink "ResidueworksLaw" (248 : Nat) ({ cls := "ResidueworksLaw", name := "units", desc := "(LResidueworks;I[J)I" } : Jvm.MethodName)) ∈ zTg := zt_5 (i := 99) (by decide +kernel) rfl
theorem zw_5_100 : (Jvm.Cond.static ({ cls := "ResidueworksLaw", name := "units", desc := "(LResidueworks;I[J)I" } : Jvm.MethodName)) ∈ zTg := zt_5 (i := 100) (by decide +kernel) rfl
theorem zw_5_101 : (Jvm.Cond.codeWith ({ cls := "ResidueworksLaw", name := "units", desc := "(LResidueworks;I[J)I" } : Jvm.MethodName) method_28_code (4 : Nat) (Option.some Jvm.ClassFile.FieldType.int) [((0 : Nat), (9 : Nat), (12 : Nat), (13 : Nat)), ((0 : Nat), (9 : Nat), (15 : Nat), (38 : Nat))]) ∈ zTg := zt_5 (i := 101) (by decide +kernel) rfl
theorem zw_5_121 : (Jvm.Cond.methodLink "ResidueworksLaw" (251 : Nat) ({ cls := "ResidueworksLaw", name := "order", desc := "(LResidueworks;II[J)I" } : Jvm.MethodName)) ∈ zTg := zt_5 (i := 121) (by decide +kernel) rfl
theorem zw_5_122 : (Jvm.Cond.static ({ cls := "ResidueworksLaw", name := "order", desc := "(LResidueworks;II[J)I" } : Jvm.MethodName)) ∈ zTg := zt_5 (i := 122) (by decide +kernel) rfl
theorem zw_5_123 : (Jvm.Cond.codeWith ({ cls := "ResidueworksLaw", name := "order", desc := "(LResidueworks;II[J)I" } : Jvm.MethodName) method_29_code (5 : Nat) (Option.some Jvm.ClassFile.FieldType.int) [((0 : Nat), (10 : Nat), (13 : Nat), (13 : Nat)), ((0 : Nat), (10 : Nat), (17 : Nat), (38 : Nat))]) ∈ zTg := zt_5 (i := 123) (by decide +kernel) rfl
theorem zw_5_138 : (Jvm.Cond.methodLink "ResidueworksLaw" (254 : Nat) ({ cls := "ResidueworksLaw", name := "generator", desc := "(LResidueworks;I[J)I" } : Jvm.MethodName)) ∈ zTg := zt_5 (i := 138) (by decide +kernel) rfl
theorem zw_5_139 : (Jvm.Cond.static ({ cls := "ResidueworksLaw", name := "generator", desc := "(LResidueworks;I[J)I" } : Jvm.MethodName)) ∈ zTg := zt_5 (i := 139) (by decide +kernel) rfl
theorem zw_5_140 : (Jvm.Cond.codeWith ({ cls := "ResidueworksLaw", name := "generator", desc := "(LResidueworks;I[J)I" } : Jvm.MethodName) method_30_code (4 : Nat) (Option.some Jvm.ClassFile.FieldType.int) [((0 : Nat), (9 : Nat), (12 : Nat), (13 : Nat)), ((0 : Nat), (9 : Nat), (15 : Nat), (38 : Nat))]) ∈ zTg := zt_5 (i := 140) (by decide +kernel) rfl
theorem zw_5_154 : (Jvm.Cond.methodLink "ResidueworksLaw" (257 : Nat) ({ cls := "ResidueworksLaw", name := "isPrime", desc := "(LResidueworks;I[J)I" } : Jvm.MethodName)) ∈ zTg := zt_5 (i := 154) (by decide +kernel) rfl
theorem zw_5_155 : (Jvm.Cond.static ({ cls := "ResidueworksLaw", name := "isPrime", desc := "(LResidueworks;I[J)I" } : Jvm.MethodName)) ∈ zTg := zt_5 (i := 155) (by decide +kernel) rfl
theorem zw_5_156 : (Jvm.Cond.codeWith ({ cls := "ResidueworksLaw", name := "isPrime", desc := "(LResidueworks;I[J)I" } : Jvm.MethodName) method_31_code (4 : Nat) (Option.some Jvm.ClassFile.FieldType.int) [((0 : Nat), (16 : Nat), (19 : Nat), (13 : Nat)), ((0 : Nat), (16 : Nat), (22 : Nat), (38 : Nat))]) ∈ zTg := zt_5 (i := 156) (by decide +kernel) rfl
theorem zw_5_166 : (Jvm.Cond.methodLink "ResidueworksLaw" (260 : Nat) ({ cls := "ResidueworksLaw", name := "modRoot", desc := "(LResidueworks;III[J)I" } : Jvm.MethodName)) ∈ zTg := zt_5 (i := 166) (by decide +kernel) rfl
theorem zw_5_167 : (Jvm.Cond.static ({ cls := "ResidueworksLaw", name := "modRoot", desc := "(LResidueworks;III[J)I" } : Jvm.MethodName)) ∈ zTg := zt_5 (i := 167) (by decide +kernel) rfl
theorem zw_5_168 : (Jvm.Cond.codeWith ({ cls := "ResidueworksLaw", name := "modRoot", desc := "(LResidueworks;III[J)I" } : Jvm.MethodName) method_32_code (6 : Nat) (Option.some Jvm.ClassFile.FieldType.int) [((0 : Nat), (12 : Nat), (15 : Nat), (13 : Nat)), ((0 : Nat), (12 : Nat), (19 : Nat), (38 : Nat)), ((0 : Nat), (12 : Nat), (23 : Nat), (121 : Nat))]) ∈ zTg := zt_5 (i := 168) (by decide +kernel) rfl
theorem zw_5_203 : (Jvm.Cond.methodLink "ResidueworksLaw" (263 : Nat) ({ cls := "ResidueworksLaw", name := "condition", desc := "(LResidueworks;II[J)I" } : Jvm.MethodName)) ∈ zTg := zt_5 (i := 203) (by decide +kernel) rfl
theorem zw_5_204 : (Jvm.Cond.static ({ cls := "ResidueworksLaw", name := "condition", desc := "(LResidueworks;II[J)I" } : Jvm.MethodName)) ∈ zTg := zt_5 (i := 204) (by decide +kernel) rfl
theorem zw_5_205 : (Jvm.Cond.codeWith ({ cls := "ResidueworksLaw", name := "condition", desc := "(LResidueworks;II[J)I" } : Jvm.MethodName) method_33_code (5 : Nat) (Option.some Jvm.ClassFile.FieldType.int) [((0 : Nat), (10 : Nat), (13 : Nat), (13 : Nat)), ((0 : Nat), (10 : Nat), (17 : Nat), (38 : Nat)), ((0 : Nat), (10 : Nat), (21 : Nat), (18 : Nat))]) ∈ zTg := zt_5 (i := 205) (by decide +kernel) rfl
theorem zw_5_221 : (Jvm.Cond.methodLink "ResidueworksLaw" (266 : Nat) ({ cls := "ResidueworksLaw", name := "solve", desc := "(LResidueworks;II[J)I" } : Jvm.MethodName)) ∈ zTg := zt_5 (i := 221) (by decide +kernel) rfl
theorem zw_5_222 : (Jvm.Cond.static ({ cls := "ResidueworksLaw", name := "solve", desc := "(LResidueworks;II[J)I" } : Jvm.MethodName)) ∈ zTg := zt_5 (i := 222) (by decide +kernel) rfl
theorem zw_5_223 : (Jvm.Cond.codeWith ({ cls := "ResidueworksLaw", name := "solve", desc := "(LResidueworks;II[J)I" } : Jvm.MethodName) method_34_code (5 : Nat) (Option.some Jvm.ClassFile.FieldType.int) [((0 : Nat), (17 : Nat), (20 : Nat), (13 : Nat)), ((0 : Nat), (17 : Nat), (24 : Nat), (28 : Nat)), ((0 : Nat), (17 : Nat), (28 : Nat), (18 : Nat))]) ∈ zTg := zt_5 (i := 223) (by decide +kernel) rfl
theorem zw_6_5 : (Jvm.Cond.methodLink "ResidueworksLaw" (273 : Nat) ({ cls := "ResidueworksLaw", name := "root", desc := "(LResidueworks;III[J)I" } : Jvm.MethodName)) ∈ zTg := zt_6 (i := 5) (by decide +kernel) rfl
theorem zw_6_6 : (Jvm.Cond.static ({ cls := "ResidueworksLaw", name := "root", desc := "(LResidueworks;III[J)I" } : Jvm.MethodName)) ∈ zTg := zt_6 (i := 6) (by decide +kernel) rfl
theorem zw_6_7 : (Jvm.Cond.codeWith ({ cls := "ResidueworksLaw", name := "root", desc := "(LResidueworks;III[J)I" } : Jvm.MethodName) method_35_code (6 : Nat) (Option.some Jvm.ClassFile.FieldType.int) [((0 : Nat), (12 : Nat), (15 : Nat), (13 : Nat)), ((0 : Nat), (12 : Nat), (19 : Nat), (28 : Nat)), ((0 : Nat), (12 : Nat), (23 : Nat), (38 : Nat))]) ∈ zTg := zt_6 (i := 7) (by decide +kernel) rfl
theorem zw_6_12 : (Jvm.Cond.methodLink "ResidueworksLaw" (276 : Nat) ({ cls := "ResidueworksLaw", name := "perfect", desc := "(LResidueworks;I[J)I" } : Jvm.MethodName)) ∈ zTg := zt_6 (i := 12) (by decide +kernel) rfl
theorem zw_6_13 : (Jvm.Cond.static ({ cls := "ResidueworksLaw", name := "perfect", desc := "(LResidueworks;I[J)I" } : Jvm.MethodName)) ∈ zTg := zt_6 (i := 13) (by decide +kernel) rfl
theorem zw_6_14 : (Jvm.Cond.codeWith ({ cls := "ResidueworksLaw", name := "perfect", desc := "(LResidueworks;I[J)I" } : Jvm.MethodName) method_36_code (4 : Nat) (Option.some Jvm.ClassFile.FieldType.int) [((0 : Nat), (9 : Nat), (12 : Nat), (13 : Nat)), ((0 : Nat), (9 : Nat), (15 : Nat), (38 : Nat))]) ∈ zTg := zt_6 (i := 14) (by decide +kernel) rfl
theorem zw_6_34 : (Jvm.Cond.methodLink "ResidueworksLaw" (279 : Nat) ({ cls := "ResidueworksLaw", name := "share", desc := "(LResidueworks;I[D)I" } : Jvm.MethodName)) ∈ zTg := zt_6 (i := 34) (by decide +kernel) rfl
theorem zw_6_35 : (Jvm.Cond.static ({ cls := "ResidueworksLaw", name := "share", desc := "(LResidueworks;I[D)I" } : Jvm.MethodName)) ∈ zTg := zt_6 (i := 35) (by decide +kernel) rfl
theorem zw_6_36 : (Jvm.Cond.codeWith ({ cls := "ResidueworksLaw", name := "share", desc := "(LResidueworks;I[D)I" } : Jvm.MethodName) method_37_code (4 : Nat) (Option.some Jvm.ClassFile.FieldType.int) [((0 : Nat), (9 : Nat), (12 : Nat), (13 : Nat)), ((0 : Nat), (9 : Nat), (15 : Nat), (38 : Nat))]) ∈ zTg := zt_6 (i := 36) (by decide +kernel) rfl
theorem zw_6_42 : (Jvm.Cond.methodLink "ResidueworksLaw" (293 : Nat) ({ cls := "ResidueworksLaw", name := "isTrue", desc := "(LResidueworks;III[J)I" } : Jvm.MethodName)) ∈ zTg := zt_6 (i := 42) (by decide +kernel) rfl
theorem zw_6_43 : (Jvm.Cond.static ({ cls := "ResidueworksLaw", name := "isTrue", desc := "(LResidueworks;III[J)I" } : Jvm.MethodName)) ∈ zTg := zt_6 (i := 43) (by decide +kernel) rfl
theorem zw_6_44 : (Jvm.Cond.codeWith ({ cls := "ResidueworksLaw", name := "isTrue", desc := "(LResidueworks;III[J)I" } : Jvm.MethodName) method_38_code (6 : Nat) (Option.some Jvm.ClassFile.FieldType.int) [((0 : Nat), (19 : Nat), (22 : Nat), (13 : Nat))]) ∈ zTg := zt_6 (i := 44) (by decide +kernel) rfl
theorem zw_6_193 : (Jvm.Cond.classLink "ResidueworksLaw" (144 : Nat) "ResidueworksModel") ∈ zTg := zt_6 (i := 193) (by decide +kernel) rfl
theorem zw_6_194 : (Jvm.Cond.instantiable "ResidueworksModel" (6 : Nat)) ∈ zTg := zt_6 (i := 194) (by decide +kernel) rfl
theorem zw_6_195 : (Jvm.Cond.methodLink "ResidueworksLaw" (146 : Nat) ({ cls := "ResidueworksModel", name := "<init>", desc := "()V" } : Jvm.MethodName)) ∈ zTg := zt_6 (i := 195) (by decide +kernel) rfl
theorem zw_6_196 : (Jvm.Cond.instanceMethod ({ cls := "ResidueworksModel", name := "<init>", desc := "()V" } : Jvm.MethodName)) ∈ zTg := zt_6 (i := 196) (by decide +kernel) rfl
theorem zw_6_197 : (Jvm.Cond.code ({ cls := "ResidueworksModel", name := "<init>", desc := "()V" } : Jvm.MethodName) prog_12_method_22_code (2 : Nat) (Option.none : Option Jvm.ClassFile.FieldType)) ∈ zTg := zt_6 (i := 197) (by decide +kernel) rfl
theorem zw_7_22 : (Jvm.Cond.methodLink "ResidueworksModel" (68 : Nat) ({ cls := "ResidueworksModel", name := "of", desc := "(J)LResidueworksModel$Whole;" } : Jvm.MethodName)) ∈ zTg := zt_7 (i := 22) (by decide +kernel) rfl
theorem zw_7_23 : (Jvm.Cond.static ({ cls := "ResidueworksModel", name := "of", desc := "(J)LResidueworksModel$Whole;" } : Jvm.MethodName)) ∈ zTg := zt_7 (i := 23) (by decide +kernel) rfl
theorem zw_7_24 : (Jvm.Cond.code ({ cls := "ResidueworksModel", name := "of", desc := "(J)LResidueworksModel$Whole;" } : Jvm.MethodName) prog_12_method_13_code (6 : Nat) (Option.some (Jvm.ClassFile.FieldType.object "ResidueworksModel$Whole"))) ∈ zTg := zt_7 (i := 24) (by decide +kernel) rfl
theorem zw_7_33 : (Jvm.Cond.methodLink "ResidueworksModel" (1 : Nat) ({ cls := "java/lang/System", name := "arraycopy", desc := "(Ljava/lang/Object;ILjava/lang/Object;II)V" } : Jvm.MethodName)) ∈ zTg := zt_7 (i := 33) (by decide +kernel) rfl
theorem zw_7_37 : (Jvm.Cond.methodLink "ResidueworksModel$Whole" (1 : Nat) ({ cls := "java/lang/Object", name := "<init>", desc := "()V" } : Jvm.MethodName)) ∈ zTg := zt_7 (i := 37) (by decide +kernel) rfl
theorem zw_7_38 : (Jvm.Cond.fieldLink "ResidueworksModel$Whole" (7 : Nat) "ResidueworksModel$Whole" "sign" "I") ∈ zTg := zt_7 (i := 38) (by decide +kernel) rfl
theorem zw_7_40 : (Jvm.Cond.fieldLink "ResidueworksModel$Whole" (13 : Nat) "ResidueworksModel$Whole" "row" "[I") ∈ zTg := zt_7 (i := 40) (by decide +kernel) rfl
theorem zw_7_66 : (Jvm.Cond.methodLink "ResidueworksLaw" (155 : Nat) ({ cls := "ResidueworksModel", name := "thrown", desc := "()I" } : Jvm.MethodName)) ∈ zTg := zt_7 (i := 66) (by decide +kernel) rfl
theorem zw_7_67 : (Jvm.Cond.instanceMethod ({ cls := "ResidueworksModel", name := "thrown", desc := "()I" } : Jvm.MethodName)) ∈ zTg := zt_7 (i := 67) (by decide +kernel) rfl
theorem zw_7_68 : (Jvm.Cond.selects "ResidueworksModel" ({ cls := "ResidueworksModel", name := "thrown", desc := "()I" } : Jvm.MethodName) ({ cls := "ResidueworksModel", name := "thrown", desc := "()I" } : Jvm.MethodName)) ∈ zTg := zt_7 (i := 68) (by decide +kernel) rfl
theorem zw_7_69 : (Jvm.Cond.code ({ cls := "ResidueworksModel", name := "thrown", desc := "()I" } : Jvm.MethodName) prog_12_method_23_code (1 : Nat) (Option.some Jvm.ClassFile.FieldType.int)) ∈ zTg := zt_7 (i := 69) (by decide +kernel) rfl
theorem zw_7_70 : (Jvm.Cond.methodLink "ResidueworksLaw" (154 : Nat) ({ cls := "ResidueworksModel", name := "put", desc := "(IJ)I" } : Jvm.MethodName)) ∈ zTg := zt_7 (i := 70) (by decide +kernel) rfl
theorem zw_7_71 : (Jvm.Cond.instanceMethod ({ cls := "ResidueworksModel", name := "put", desc := "(IJ)I" } : Jvm.MethodName)) ∈ zTg := zt_7 (i := 71) (by decide +kernel) rfl
theorem zw_7_72 : (Jvm.Cond.selects "ResidueworksModel" ({ cls := "ResidueworksModel", name := "put", desc := "(IJ)I" } : Jvm.MethodName) ({ cls := "ResidueworksModel", name := "put", desc := "(IJ)I" } : Jvm.MethodName)) ∈ zTg := zt_7 (i := 72) (by decide +kernel) rfl
theorem zw_7_73 : (Jvm.Cond.code ({ cls := "ResidueworksModel", name := "put", desc := "(IJ)I" } : Jvm.MethodName) prog_12_method_29_code (4 : Nat) (Option.some Jvm.ClassFile.FieldType.int)) ∈ zTg := zt_7 (i := 73) (by decide +kernel) rfl
theorem zw_7_74 : (Jvm.Cond.methodLink "ResidueworksModel" (176 : Nat) ({ cls := "ResidueworksModel", name := "are", desc := "([I)Z" } : Jvm.MethodName)) ∈ zTg := zt_7 (i := 74) (by decide +kernel) rfl
theorem zw_7_75 : (Jvm.Cond.static ({ cls := "ResidueworksModel", name := "are", desc := "([I)Z" } : Jvm.MethodName)) ∈ zTg := zt_7 (i := 75) (by decide +kernel) rfl
theorem zw_7_76 : (Jvm.Cond.code ({ cls := "ResidueworksModel", name := "are", desc := "([I)Z" } : Jvm.MethodName) prog_12_method_26_code (6 : Nat) (Option.some Jvm.ClassFile.FieldType.boolean)) ∈ zTg := zt_7 (i := 76) (by decide +kernel) rfl
theorem zw_7_81 : (Jvm.Cond.methodLink "ResidueworksModel" (180 : Nat) ({ cls := "ResidueworksModel", name := "fails", desc := "(ZI)Z" } : Jvm.MethodName)) ∈ zTg := zt_7 (i := 81) (by decide +kernel) rfl
theorem zw_7_83 : (Jvm.Cond.instanceMethod ({ cls := "ResidueworksModel", name := "fails", desc := "(ZI)Z" } : Jvm.MethodName)) ∈ zTg := zt_7 (i := 83) (by decide +kernel) rfl
theorem zw_7_84 : (Jvm.Cond.code ({ cls := "ResidueworksModel", name := "fails", desc := "(ZI)Z" } : Jvm.MethodName) prog_12_method_24_code (3 : Nat) (Option.some Jvm.ClassFile.FieldType.boolean)) ∈ zTg := zt_7 (i := 84) (by decide +kernel) rfl
theorem zw_7_85 : (Jvm.Cond.methodLink "ResidueworksModel" (184 : Nat) ({ cls := "ResidueworksModel", name := "lays", desc := "(ILResidueworksModel$Whole;)I" } : Jvm.MethodName)) ∈ zTg := zt_7 (i := 85) (by decide +kernel) rfl
theorem zw_7_87 : (Jvm.Cond.instanceMethod ({ cls := "ResidueworksModel", name := "lays", desc := "(ILResidueworksModel$Whole;)I" } : Jvm.MethodName)) ∈ zTg := zt_7 (i := 87) (by decide +kernel) rfl
theorem zw_7_88 : (Jvm.Cond.code ({ cls := "ResidueworksModel", name := "lays", desc := "(ILResidueworksModel$Whole;)I" } : Jvm.MethodName) prog_12_method_27_code (3 : Nat) (Option.some Jvm.ClassFile.FieldType.int)) ∈ zTg := zt_7 (i := 88) (by decide +kernel) rfl
theorem zw_7_105 : (Jvm.Cond.methodLink "ResidueworksLaw" (161 : Nat) ({ cls := "ResidueworksModel", name := "longer", desc := "(IJ)I" } : Jvm.MethodName)) ∈ zTg := zt_7 (i := 105) (by decide +kernel) rfl
theorem zw_7_106 : (Jvm.Cond.instanceMethod ({ cls := "ResidueworksModel", name := "longer", desc := "(IJ)I" } : Jvm.MethodName)) ∈ zTg := zt_7 (i := 106) (by decide +kernel) rfl
theorem zw_7_107 : (Jvm.Cond.selects "ResidueworksModel" ({ cls := "ResidueworksModel", name := "longer", desc := "(IJ)I" } : Jvm.MethodName) ({ cls := "ResidueworksModel", name := "longer", desc := "(IJ)I" } : Jvm.MethodName)) ∈ zTg := zt_7 (i := 107) (by decide +kernel) rfl
theorem zw_7_108 : (Jvm.Cond.code ({ cls := "ResidueworksModel", name := "longer", desc := "(IJ)I" } : Jvm.MethodName) prog_12_method_30_code (5 : Nat) (Option.some Jvm.ClassFile.FieldType.int)) ∈ zTg := zt_7 (i := 108) (by decide +kernel) rfl
theorem zw_7_157 : (Jvm.Cond.methodLink "ResidueworksLaw" (165 : Nat) ({ cls := "ResidueworksModel", name := "copy", desc := "(II)I" } : Jvm.MethodName)) ∈ zTg := zt_7 (i := 157) (by decide +kernel) rfl
theorem zw_7_158 : (Jvm.Cond.instanceMethod ({ cls := "ResidueworksModel", name := "copy", desc := "(II)I" } : Jvm.MethodName)) ∈ zTg := zt_7 (i := 158) (by decide +kernel) rfl
theorem zw_7_159 : (Jvm.Cond.selects "ResidueworksModel" ({ cls := "ResidueworksModel", name := "copy", desc := "(II)I" } : Jvm.MethodName) ({ cls := "ResidueworksModel", name := "copy", desc := "(II)I" } : Jvm.MethodName)) ∈ zTg := zt_7 (i := 159) (by decide +kernel) rfl
theorem zw_7_160 : (Jvm.Cond.code ({ cls := "ResidueworksModel", name := "copy", desc := "(II)I" } : Jvm.MethodName) prog_12_method_31_code (3 : Nat) (Option.some Jvm.ClassFile.FieldType.int)) ∈ zTg := zt_7 (i := 160) (by decide +kernel) rfl
theorem zw_7_161 : (Jvm.Cond.methodLink "ResidueworksLaw" (168 : Nat) ({ cls := "ResidueworksModel", name := "part", desc := "(II)J" } : Jvm.MethodName)) ∈ zTg := zt_7 (i := 161) (by decide +kernel) rfl
theorem zw_7_162 : (Jvm.Cond.instanceMethod ({ cls := "ResidueworksModel", name := "part", desc := "(II)J" } : Jvm.MethodName)) ∈ zTg := zt_7 (i := 162) (by decide +kernel) rfl
theorem zw_7_163 : (Jvm.Cond.selects "ResidueworksModel" ({ cls := "ResidueworksModel", name := "part", desc := "(II)J" } : Jvm.MethodName) ({ cls := "ResidueworksModel", name := "part", desc := "(II)J" } : Jvm.MethodName)) ∈ zTg := zt_7 (i := 163) (by decide +kernel) rfl
theorem zw_7_164 : (Jvm.Cond.code ({ cls := "ResidueworksModel", name := "part", desc := "(II)J" } : Jvm.MethodName) prog_12_method_33_code (3 : Nat) (Option.some Jvm.ClassFile.FieldType.long)) ∈ zTg := zt_7 (i := 164) (by decide +kernel) rfl
theorem zw_7_176 : (Jvm.Cond.methodLink "ResidueworksLaw" (172 : Nat) ({ cls := "ResidueworksModel", name := "tells", desc := "(IC)I" } : Jvm.MethodName)) ∈ zTg := zt_7 (i := 176) (by decide +kernel) rfl
theorem zw_7_177 : (Jvm.Cond.instanceMethod ({ cls := "ResidueworksModel", name := "tells", desc := "(IC)I" } : Jvm.MethodName)) ∈ zTg := zt_7 (i := 177) (by decide +kernel) rfl
theorem zw_7_178 : (Jvm.Cond.selects "ResidueworksModel" ({ cls := "ResidueworksModel", name := "tells", desc := "(IC)I" } : Jvm.MethodName) ({ cls := "ResidueworksModel", name := "tells", desc := "(IC)I" } : Jvm.MethodName)) ∈ zTg := zt_7 (i := 178) (by decide +kernel) rfl
theorem zw_7_179 : (Jvm.Cond.code ({ cls := "ResidueworksModel", name := "tells", desc := "(IC)I" } : Jvm.MethodName) prog_12_method_36_code (4 : Nat) (Option.some Jvm.ClassFile.FieldType.int)) ∈ zTg := zt_7 (i := 179) (by decide +kernel) rfl
theorem zw_8_33 : (Jvm.Cond.methodLink "ResidueworksLaw" (176 : Nat) ({ cls := "ResidueworksModel", name := "exact", desc := "(I)I" } : Jvm.MethodName)) ∈ zTg := zt_8 (i := 33) (by decide +kernel) rfl
theorem zw_8_34 : (Jvm.Cond.instanceMethod ({ cls := "ResidueworksModel", name := "exact", desc := "(I)I" } : Jvm.MethodName)) ∈ zTg := zt_8 (i := 34) (by decide +kernel) rfl
theorem zw_8_35 : (Jvm.Cond.selects "ResidueworksModel" ({ cls := "ResidueworksModel", name := "exact", desc := "(I)I" } : Jvm.MethodName) ({ cls := "ResidueworksModel", name := "exact", desc := "(I)I" } : Jvm.MethodName)) ∈ zTg := zt_8 (i := 35) (by decide +kernel) rfl
theorem zw_8_36 : (Jvm.Cond.code ({ cls := "ResidueworksModel", name := "exact", desc := "(I)I" } : Jvm.MethodName) prog_12_method_37_code (2 : Nat) (Option.some Jvm.ClassFile.FieldType.int)) ∈ zTg := zt_8 (i := 36) (by decide +kernel) rfl
theorem zw_8_37 : (Jvm.Cond.methodLink "ResidueworksLaw" (179 : Nat) ({ cls := "ResidueworksModel", name := "compare", desc := "(II)I" } : Jvm.MethodName)) ∈ zTg := zt_8 (i := 37) (by decide +kernel) rfl
theorem zw_8_38 : (Jvm.Cond.instanceMethod ({ cls := "ResidueworksModel", name := "compare", desc := "(II)I" } : Jvm.MethodName)) ∈ zTg := zt_8 (i := 38) (by decide +kernel) rfl
theorem zw_8_39 : (Jvm.Cond.selects "ResidueworksModel" ({ cls := "ResidueworksModel", name := "compare", desc := "(II)I" } : Jvm.MethodName) ({ cls := "ResidueworksModel", name := "compare", desc := "(II)I" } : Jvm.MethodName)) ∈ zTg := zt_8 (i := 39) (by decide +kernel) rfl
theorem zw_8_40 : (Jvm.Cond.code ({ cls := "ResidueworksModel", name := "compare", desc := "(II)I" } : Jvm.MethodName) prog_12_method_38_code (3 : Nat) (Option.some Jvm.ClassFile.FieldType.int)) ∈ zTg := zt_8 (i := 40) (by decide +kernel) rfl
theorem zw_8_45 : (Jvm.Cond.methodLink "ResidueworksLaw" (183 : Nat) ({ cls := "ResidueworksModel", name := "does", desc := "(CIII)I" } : Jvm.MethodName)) ∈ zTg := zt_8 (i := 45) (by decide +kernel) rfl
theorem zw_8_46 : (Jvm.Cond.instanceMethod ({ cls := "ResidueworksModel", name := "does", desc := "(CIII)I" } : Jvm.MethodName)) ∈ zTg := zt_8 (i := 46) (by decide +kernel) rfl
theorem zw_8_47 : (Jvm.Cond.selects "ResidueworksModel" ({ cls := "ResidueworksModel", name := "does", desc := "(CIII)I" } : Jvm.MethodName) ({ cls := "ResidueworksModel", name := "does", desc := "(CIII)I" } : Jvm.MethodName)) ∈ zTg := zt_8 (i := 47) (by decide +kernel) rfl
theorem zw_8_48 : (Jvm.Cond.code ({ cls := "ResidueworksModel", name := "does", desc := "(CIII)I" } : Jvm.MethodName) prog_12_method_41_code (8 : Nat) (Option.some Jvm.ClassFile.FieldType.int)) ∈ zTg := zt_8 (i := 48) (by decide +kernel) rfl
theorem zw_8_109 : (Jvm.Cond.methodLink "ResidueworksLaw" (187 : Nat) ({ cls := "ResidueworksModel", name := "alone", desc := "(CII)I" } : Jvm.MethodName)) ∈ zTg := zt_8 (i := 109) (by decide +kernel) rfl
theorem zw_8_110 : (Jvm.Cond.instanceMethod ({ cls := "ResidueworksModel", name := "alone", desc := "(CII)I" } : Jvm.MethodName)) ∈ zTg := zt_8 (i := 110) (by decide +kernel) rfl
theorem zw_8_111 : (Jvm.Cond.selects "ResidueworksModel" ({ cls := "ResidueworksModel", name := "alone", desc := "(CII)I" } : Jvm.MethodName) ({ cls := "ResidueworksModel", name := "alone", desc := "(CII)I" } : Jvm.MethodName)) ∈ zTg := zt_8 (i := 111) (by decide +kernel) rfl
theorem zw_8_112 : (Jvm.Cond.code ({ cls := "ResidueworksModel", name := "alone", desc := "(CII)I" } : Jvm.MethodName) prog_12_method_42_code (6 : Nat) (Option.some Jvm.ClassFile.FieldType.int)) ∈ zTg := zt_8 (i := 112) (by decide +kernel) rfl
theorem zw_8_122 : (Jvm.Cond.methodLink "ResidueworksLaw" (191 : Nat) ({ cls := "ResidueworksModel", name := "shifts", desc := "(III)I" } : Jvm.MethodName)) ∈ zTg := zt_8 (i := 122) (by decide +kernel) rfl
theorem zw_8_123 : (Jvm.Cond.instanceMethod ({ cls := "ResidueworksModel", name := "shifts", desc := "(III)I" } : Jvm.MethodName)) ∈ zTg := zt_8 (i := 123) (by decide +kernel) rfl
theorem zw_8_124 : (Jvm.Cond.selects "ResidueworksModel" ({ cls := "ResidueworksModel", name := "shifts", desc := "(III)I" } : Jvm.MethodName) ({ cls := "ResidueworksModel", name := "shifts", desc := "(III)I" } : Jvm.MethodName)) ∈ zTg := zt_8 (i := 124) (by decide +kernel) rfl
theorem zw_8_125 : (Jvm.Cond.code ({ cls := "ResidueworksModel", name := "shifts", desc := "(III)I" } : Jvm.MethodName) prog_12_method_43_code (5 : Nat) (Option.some Jvm.ClassFile.FieldType.int)) ∈ zTg := zt_8 (i := 125) (by decide +kernel) rfl
theorem zw_8_127 : (Jvm.Cond.methodLink "ResidueworksLaw" (194 : Nat) ({ cls := "ResidueworksModel", name := "bit", desc := "(II)Z" } : Jvm.MethodName)) ∈ zTg := zt_8 (i := 127) (by decide +kernel) rfl
theorem zw_8_128 : (Jvm.Cond.instanceMethod ({ cls := "ResidueworksModel", name := "bit", desc := "(II)Z" } : Jvm.MethodName)) ∈ zTg := zt_8 (i := 128) (by decide +kernel) rfl
theorem zw_8_129 : (Jvm.Cond.selects "ResidueworksModel" ({ cls := "ResidueworksModel", name := "bit", desc := "(II)Z" } : Jvm.MethodName) ({ cls := "ResidueworksModel", name := "bit", desc := "(II)Z" } : Jvm.MethodName)) ∈ zTg := zt_8 (i := 129) (by decide +kernel) rfl
theorem zw_8_130 : (Jvm.Cond.code ({ cls := "ResidueworksModel", name := "bit", desc := "(II)Z" } : Jvm.MethodName) prog_12_method_44_code (3 : Nat) (Option.some Jvm.ClassFile.FieldType.boolean)) ∈ zTg := zt_8 (i := 130) (by decide +kernel) rfl
theorem zw_8_131 : (Jvm.Cond.methodLink "ResidueworksLaw" (198 : Nat) ({ cls := "ResidueworksModel", name := "setBit", desc := "(IIC)I" } : Jvm.MethodName)) ∈ zTg := zt_8 (i := 131) (by decide +kernel) rfl
theorem zw_8_132 : (Jvm.Cond.instanceMethod ({ cls := "ResidueworksModel", name := "setBit", desc := "(IIC)I" } : Jvm.MethodName)) ∈ zTg := zt_8 (i := 132) (by decide +kernel) rfl
theorem zw_8_133 : (Jvm.Cond.selects "ResidueworksModel" ({ cls := "ResidueworksModel", name := "setBit", desc := "(IIC)I" } : Jvm.MethodName) ({ cls := "ResidueworksModel", name := "setBit", desc := "(IIC)I" } : Jvm.MethodName)) ∈ zTg := zt_8 (i := 133) (by decide +kernel) rfl
theorem zw_8_134 : (Jvm.Cond.code ({ cls := "ResidueworksModel", name := "setBit", desc := "(IIC)I" } : Jvm.MethodName) prog_12_method_45_code (9 : Nat) (Option.some Jvm.ClassFile.FieldType.int)) ∈ zTg := zt_8 (i := 134) (by decide +kernel) rfl
theorem zw_8_137 : (Jvm.Cond.methodLink "ResidueworksLaw" (201 : Nat) ({ cls := "ResidueworksModel", name := "power", desc := "(III)I" } : Jvm.MethodName)) ∈ zTg := zt_8 (i := 137) (by decide +kernel) rfl
theorem zw_8_138 : (Jvm.Cond.instanceMethod ({ cls := "ResidueworksModel", name := "power", desc := "(III)I" } : Jvm.MethodName)) ∈ zTg := zt_8 (i := 138) (by decide +kernel) rfl
theorem zw_8_139 : (Jvm.Cond.selects "ResidueworksModel" ({ cls := "ResidueworksModel", name := "power", desc := "(III)I" } : Jvm.MethodName) ({ cls := "ResidueworksModel", name := "power", desc := "(III)I" } : Jvm.MethodName)) ∈ zTg := zt_8 (i := 139) (by decide +kernel) rfl
theorem zw_8_140 : (Jvm.Cond.code ({ cls := "ResidueworksModel", name := "power", desc := "(III)I" } : Jvm.MethodName) prog_12_method_46_code (5 : Nat) (Option.some Jvm.ClassFile.FieldType.int)) ∈ zTg := zt_8 (i := 140) (by decide +kernel) rfl
theorem zw_8_142 : (Jvm.Cond.methodLink "ResidueworksLaw" (205 : Nat) ({ cls := "ResidueworksModel", name := "divides", desc := "(IIII)I" } : Jvm.MethodName)) ∈ zTg := zt_8 (i := 142) (by decide +kernel) rfl
theorem zw_8_143 : (Jvm.Cond.instanceMethod ({ cls := "ResidueworksModel", name := "divides", desc := "(IIII)I" } : Jvm.MethodName)) ∈ zTg := zt_8 (i := 143) (by decide +kernel) rfl
theorem zw_8_144 : (Jvm.Cond.selects "ResidueworksModel" ({ cls := "ResidueworksModel", name := "divides", desc := "(IIII)I" } : Jvm.MethodName) ({ cls := "ResidueworksModel", name := "divides", desc := "(IIII)I" } : Jvm.MethodName)) ∈ zTg := zt_8 (i := 144) (by decide +kernel) rfl
theorem zw_8_145 : (Jvm.Cond.code ({ cls := "ResidueworksModel", name := "divides", desc := "(IIII)I" } : Jvm.MethodName) prog_12_method_47_code (6 : Nat) (Option.some Jvm.ClassFile.FieldType.int)) ∈ zTg := zt_8 (i := 145) (by decide +kernel) rfl
theorem zw_8_146 : (Jvm.Cond.methodLink "ResidueworksLaw" (209 : Nat) ({ cls := "ResidueworksModel", name := "type", desc := "(C)I" } : Jvm.MethodName)) ∈ zTg := zt_8 (i := 146) (by decide +kernel) rfl
theorem zw_8_147 : (Jvm.Cond.instanceMethod ({ cls := "ResidueworksModel", name := "type", desc := "(C)I" } : Jvm.MethodName)) ∈ zTg := zt_8 (i := 147) (by decide +kernel) rfl
theorem zw_8_148 : (Jvm.Cond.selects "ResidueworksModel" ({ cls := "ResidueworksModel", name := "type", desc := "(C)I" } : Jvm.MethodName) ({ cls := "ResidueworksModel", name := "type", desc := "(C)I" } : Jvm.MethodName)) ∈ zTg := zt_8 (i := 148) (by decide +kernel) rfl
theorem zw_8_149 : (Jvm.Cond.code ({ cls := "ResidueworksModel", name := "type", desc := "(C)I" } : Jvm.MethodName) prog_12_method_48_code (2 : Nat) (Option.some Jvm.ClassFile.FieldType.int)) ∈ zTg := zt_8 (i := 149) (by decide +kernel) rfl
theorem zw_8_237 : (Jvm.Cond.methodLink "ResidueworksLaw" (213 : Nat) ({ cls := "ResidueworksModel", name := "erase", desc := "()I" } : Jvm.MethodName)) ∈ zTg := zt_8 (i := 237) (by decide +kernel) rfl
theorem zw_8_238 : (Jvm.Cond.instanceMethod ({ cls := "ResidueworksModel", name := "erase", desc := "()I" } : Jvm.MethodName)) ∈ zTg := zt_8 (i := 238) (by decide +kernel) rfl
theorem zw_8_239 : (Jvm.Cond.selects "ResidueworksModel" ({ cls := "ResidueworksModel", name := "erase", desc := "()I" } : Jvm.MethodName) ({ cls := "ResidueworksModel", name := "erase", desc := "()I" } : Jvm.MethodName)) ∈ zTg := zt_8 (i := 239) (by decide +kernel) rfl
theorem zw_9_0 : (Jvm.Cond.code ({ cls := "ResidueworksModel", name := "erase", desc := "()I" } : Jvm.MethodName) prog_12_method_49_code (2 : Nat) (Option.some Jvm.ClassFile.FieldType.int)) ∈ zTg := zt_9 (i := 0) (by decide +kernel) rfl
theorem zw_9_158 : (Jvm.Cond.methodLink "ResidueworksLaw" (216 : Nat) ({ cls := "ResidueworksModel", name := "signAt", desc := "(I)C" } : Jvm.MethodName)) ∈ zTg := zt_9 (i := 158) (by decide +kernel) rfl
theorem zw_9_159 : (Jvm.Cond.instanceMethod ({ cls := "ResidueworksModel", name := "signAt", desc := "(I)C" } : Jvm.MethodName)) ∈ zTg := zt_9 (i := 159) (by decide +kernel) rfl
theorem zw_9_160 : (Jvm.Cond.selects "ResidueworksModel" ({ cls := "ResidueworksModel", name := "signAt", desc := "(I)C" } : Jvm.MethodName) ({ cls := "ResidueworksModel", name := "signAt", desc := "(I)C" } : Jvm.MethodName)) ∈ zTg := zt_9 (i := 160) (by decide +kernel) rfl
theorem zw_9_161 : (Jvm.Cond.code ({ cls := "ResidueworksModel", name := "signAt", desc := "(I)C" } : Jvm.MethodName) prog_12_method_50_code (2 : Nat) (Option.some Jvm.ClassFile.FieldType.char)) ∈ zTg := zt_9 (i := 161) (by decide +kernel) rfl
theorem zw_9_172 : (Jvm.Cond.methodLink "ResidueworksLaw" (219 : Nat) ({ cls := "ResidueworksModel", name := "read", desc := "(II)I" } : Jvm.MethodName)) ∈ zTg := zt_9 (i := 172) (by decide +kernel) rfl
theorem zw_9_173 : (Jvm.Cond.instanceMethod ({ cls := "ResidueworksModel", name := "read", desc := "(II)I" } : Jvm.MethodName)) ∈ zTg := zt_9 (i := 173) (by decide +kernel) rfl
theorem zw_9_174 : (Jvm.Cond.selects "ResidueworksModel" ({ cls := "ResidueworksModel", name := "read", desc := "(II)I" } : Jvm.MethodName) ({ cls := "ResidueworksModel", name := "read", desc := "(II)I" } : Jvm.MethodName)) ∈ zTg := zt_9 (i := 174) (by decide +kernel) rfl
theorem zw_9_175 : (Jvm.Cond.code ({ cls := "ResidueworksModel", name := "read", desc := "(II)I" } : Jvm.MethodName) prog_12_method_52_code (9 : Nat) (Option.some Jvm.ClassFile.FieldType.int)) ∈ zTg := zt_9 (i := 175) (by decide +kernel) rfl
theorem zw_9_181 : (Jvm.Cond.methodLink "ResidueworksLaw" (222 : Nat) ({ cls := "ResidueworksModel", name := "write", desc := "(II)I" } : Jvm.MethodName)) ∈ zTg := zt_9 (i := 181) (by decide +kernel) rfl
theorem zw_9_182 : (Jvm.Cond.instanceMethod ({ cls := "ResidueworksModel", name := "write", desc := "(II)I" } : Jvm.MethodName)) ∈ zTg := zt_9 (i := 182) (by decide +kernel) rfl
theorem zw_9_183 : (Jvm.Cond.selects "ResidueworksModel" ({ cls := "ResidueworksModel", name := "write", desc := "(II)I" } : Jvm.MethodName) ({ cls := "ResidueworksModel", name := "write", desc := "(II)I" } : Jvm.MethodName)) ∈ zTg := zt_9 (i := 183) (by decide +kernel) rfl
theorem zw_9_184 : (Jvm.Cond.code ({ cls := "ResidueworksModel", name := "write", desc := "(II)I" } : Jvm.MethodName) prog_12_method_53_code (7 : Nat) (Option.some Jvm.ClassFile.FieldType.int)) ∈ zTg := zt_9 (i := 184) (by decide +kernel) rfl
theorem zw_9_197 : (Jvm.Cond.methodLink "ResidueworksLaw" (225 : Nat) ({ cls := "ResidueworksModel", name := "push", desc := "(I)I" } : Jvm.MethodName)) ∈ zTg := zt_9 (i := 197) (by decide +kernel) rfl
theorem zw_9_198 : (Jvm.Cond.instanceMethod ({ cls := "ResidueworksModel", name := "push", desc := "(I)I" } : Jvm.MethodName)) ∈ zTg := zt_9 (i := 198) (by decide +kernel) rfl
theorem zw_9_199 : (Jvm.Cond.selects "ResidueworksModel" ({ cls := "ResidueworksModel", name := "push", desc := "(I)I" } : Jvm.MethodName) ({ cls := "ResidueworksModel", name := "push", desc := "(I)I" } : Jvm.MethodName)) ∈ zTg := zt_9 (i := 199) (by decide +kernel) rfl
theorem zw_9_200 : (Jvm.Cond.code ({ cls := "ResidueworksModel", name := "push", desc := "(I)I" } : Jvm.MethodName) prog_12_method_54_code (2 : Nat) (Option.some Jvm.ClassFile.FieldType.int)) ∈ zTg := zt_9 (i := 200) (by decide +kernel) rfl
theorem zw_10_53 : (Jvm.Cond.methodLink "ResidueworksLaw" (229 : Nat) ({ cls := "ResidueworksModel", name := "clearRow", desc := "()I" } : Jvm.MethodName)) ∈ zTg := zt_10 (i := 53) (by decide +kernel) rfl
theorem zw_10_54 : (Jvm.Cond.instanceMethod ({ cls := "ResidueworksModel", name := "clearRow", desc := "()I" } : Jvm.MethodName)) ∈ zTg := zt_10 (i := 54) (by decide +kernel) rfl
theorem zw_10_55 : (Jvm.Cond.selects "ResidueworksModel" ({ cls := "ResidueworksModel", name := "clearRow", desc := "()I" } : Jvm.MethodName) ({ cls := "ResidueworksModel", name := "clearRow", desc := "()I" } : Jvm.MethodName)) ∈ zTg := zt_10 (i := 55) (by decide +kernel) rfl
theorem zw_10_56 : (Jvm.Cond.code ({ cls := "ResidueworksModel", name := "clearRow", desc := "()I" } : Jvm.MethodName) prog_12_method_55_code (2 : Nat) (Option.some Jvm.ClassFile.FieldType.int)) ∈ zTg := zt_10 (i := 56) (by decide +kernel) rfl
theorem zw_10_66 : (Jvm.Cond.methodLink "ResidueworksLaw" (232 : Nat) ({ cls := "ResidueworksModel", name := "fromRow", desc := "(I)I" } : Jvm.MethodName)) ∈ zTg := zt_10 (i := 66) (by decide +kernel) rfl
theorem zw_10_67 : (Jvm.Cond.instanceMethod ({ cls := "ResidueworksModel", name := "fromRow", desc := "(I)I" } : Jvm.MethodName)) ∈ zTg := zt_10 (i := 67) (by decide +kernel) rfl
theorem zw_10_68 : (Jvm.Cond.selects "ResidueworksModel" ({ cls := "ResidueworksModel", name := "fromRow", desc := "(I)I" } : Jvm.MethodName) ({ cls := "ResidueworksModel", name := "fromRow", desc := "(I)I" } : Jvm.MethodName)) ∈ zTg := zt_10 (i := 68) (by decide +kernel) rfl
theorem zw_10_69 : (Jvm.Cond.code ({ cls := "ResidueworksModel", name := "fromRow", desc := "(I)I" } : Jvm.MethodName) prog_12_method_56_code (4 : Nat) (Option.some Jvm.ClassFile.FieldType.int)) ∈ zTg := zt_10 (i := 69) (by decide +kernel) rfl
theorem zw_10_101 : (Jvm.Cond.methodLink "ResidueworksLaw" (235 : Nat) ({ cls := "ResidueworksModel", name := "toRow", desc := "(I)I" } : Jvm.MethodName)) ∈ zTg := zt_10 (i := 101) (by decide +kernel) rfl
theorem zw_10_102 : (Jvm.Cond.instanceMethod ({ cls := "ResidueworksModel", name := "toRow", desc := "(I)I" } : Jvm.MethodName)) ∈ zTg := zt_10 (i := 102) (by decide +kernel) rfl
theorem zw_10_103 : (Jvm.Cond.selects "ResidueworksModel" ({ cls := "ResidueworksModel", name := "toRow", desc := "(I)I" } : Jvm.MethodName) ({ cls := "ResidueworksModel", name := "toRow", desc := "(I)I" } : Jvm.MethodName)) ∈ zTg := zt_10 (i := 103) (by decide +kernel) rfl
theorem zw_10_104 : (Jvm.Cond.code ({ cls := "ResidueworksModel", name := "toRow", desc := "(I)I" } : Jvm.MethodName) prog_12_method_57_code (4 : Nat) (Option.some Jvm.ClassFile.FieldType.int)) ∈ zTg := zt_10 (i := 104) (by decide +kernel) rfl
theorem zw_10_106 : (Jvm.Cond.methodLink "ResidueworksLaw" (238 : Nat) ({ cls := "ResidueworksModel", name := "byteAt", desc := "(I)I" } : Jvm.MethodName)) ∈ zTg := zt_10 (i := 106) (by decide +kernel) rfl
theorem zw_10_107 : (Jvm.Cond.instanceMethod ({ cls := "ResidueworksModel", name := "byteAt", desc := "(I)I" } : Jvm.MethodName)) ∈ zTg := zt_10 (i := 107) (by decide +kernel) rfl
theorem zw_10_108 : (Jvm.Cond.selects "ResidueworksModel" ({ cls := "ResidueworksModel", name := "byteAt", desc := "(I)I" } : Jvm.MethodName) ({ cls := "ResidueworksModel", name := "byteAt", desc := "(I)I" } : Jvm.MethodName)) ∈ zTg := zt_10 (i := 108) (by decide +kernel) rfl
theorem zw_10_109 : (Jvm.Cond.code ({ cls := "ResidueworksModel", name := "byteAt", desc := "(I)I" } : Jvm.MethodName) prog_12_method_58_code (2 : Nat) (Option.some Jvm.ClassFile.FieldType.int)) ∈ zTg := zt_10 (i := 109) (by decide +kernel) rfl
theorem zw_10_110 : (Jvm.Cond.methodLink "ResidueworksLaw" (241 : Nat) ({ cls := "ResidueworksModel", name := "modPower", desc := "(IIII)I" } : Jvm.MethodName)) ∈ zTg := zt_10 (i := 110) (by decide +kernel) rfl
theorem zw_10_111 : (Jvm.Cond.instanceMethod ({ cls := "ResidueworksModel", name := "modPower", desc := "(IIII)I" } : Jvm.MethodName)) ∈ zTg := zt_10 (i := 111) (by decide +kernel) rfl
theorem zw_10_112 : (Jvm.Cond.selects "ResidueworksModel" ({ cls := "ResidueworksModel", name := "modPower", desc := "(IIII)I" } : Jvm.MethodName) ({ cls := "ResidueworksModel", name := "modPower", desc := "(IIII)I" } : Jvm.MethodName)) ∈ zTg := zt_10 (i := 112) (by decide +kernel) rfl
theorem zw_10_113 : (Jvm.Cond.code ({ cls := "ResidueworksModel", name := "modPower", desc := "(IIII)I" } : Jvm.MethodName) prog_12_method_60_code (7 : Nat) (Option.some Jvm.ClassFile.FieldType.int)) ∈ zTg := zt_10 (i := 113) (by decide +kernel) rfl
theorem zw_10_123 : (Jvm.Cond.methodLink "ResidueworksLaw" (244 : Nat) ({ cls := "ResidueworksModel", name := "inverse", desc := "(III)I" } : Jvm.MethodName)) ∈ zTg := zt_10 (i := 123) (by decide +kernel) rfl
theorem zw_10_124 : (Jvm.Cond.instanceMethod ({ cls := "ResidueworksModel", name := "inverse", desc := "(III)I" } : Jvm.MethodName)) ∈ zTg := zt_10 (i := 124) (by decide +kernel) rfl
theorem zw_10_125 : (Jvm.Cond.selects "ResidueworksModel" ({ cls := "ResidueworksModel", name := "inverse", desc := "(III)I" } : Jvm.MethodName) ({ cls := "ResidueworksModel", name := "inverse", desc := "(III)I" } : Jvm.MethodName)) ∈ zTg := zt_10 (i := 125) (by decide +kernel) rfl
theorem zw_10_126 : (Jvm.Cond.code ({ cls := "ResidueworksModel", name := "inverse", desc := "(III)I" } : Jvm.MethodName) prog_12_method_61_code (5 : Nat) (Option.some Jvm.ClassFile.FieldType.int)) ∈ zTg := zt_10 (i := 126) (by decide +kernel) rfl
theorem zw_10_127 : (Jvm.Cond.methodLink "ResidueworksLaw" (247 : Nat) ({ cls := "ResidueworksModel", name := "symbol", desc := "(II)I" } : Jvm.MethodName)) ∈ zTg := zt_10 (i := 127) (by decide +kernel) rfl
theorem zw_10_128 : (Jvm.Cond.instanceMethod ({ cls := "ResidueworksModel", name := "symbol", desc := "(II)I" } : Jvm.MethodName)) ∈ zTg := zt_10 (i := 128) (by decide +kernel) rfl
theorem zw_10_129 : (Jvm.Cond.selects "ResidueworksModel" ({ cls := "ResidueworksModel", name := "symbol", desc := "(II)I" } : Jvm.MethodName) ({ cls := "ResidueworksModel", name := "symbol", desc := "(II)I" } : Jvm.MethodName)) ∈ zTg := zt_10 (i := 129) (by decide +kernel) rfl
theorem zw_10_130 : (Jvm.Cond.code ({ cls := "ResidueworksModel", name := "symbol", desc := "(II)I" } : Jvm.MethodName) prog_12_method_63_code (7 : Nat) (Option.some Jvm.ClassFile.FieldType.int)) ∈ zTg := zt_10 (i := 130) (by decide +kernel) rfl
theorem zw_10_134 : (Jvm.Cond.methodLink "ResidueworksLaw" (250 : Nat) ({ cls := "ResidueworksModel", name := "units", desc := "(I)I" } : Jvm.MethodName)) ∈ zTg := zt_10 (i := 134) (by decide +kernel) rfl
theorem zw_10_135 : (Jvm.Cond.instanceMethod ({ cls := "ResidueworksModel", name := "units", desc := "(I)I" } : Jvm.MethodName)) ∈ zTg := zt_10 (i := 135) (by decide +kernel) rfl
theorem zw_10_136 : (Jvm.Cond.selects "ResidueworksModel" ({ cls := "ResidueworksModel", name := "units", desc := "(I)I" } : Jvm.MethodName) ({ cls := "ResidueworksModel", name := "units", desc := "(I)I" } : Jvm.MethodName)) ∈ zTg := zt_10 (i := 136) (by decide +kernel) rfl
theorem zw_10_137 : (Jvm.Cond.code ({ cls := "ResidueworksModel", name := "units", desc := "(I)I" } : Jvm.MethodName) prog_12_method_67_code (2 : Nat) (Option.some Jvm.ClassFile.FieldType.int)) ∈ zTg := zt_10 (i := 137) (by decide +kernel) rfl
theorem zw_10_148 : (Jvm.Cond.methodLink "ResidueworksLaw" (253 : Nat) ({ cls := "ResidueworksModel", name := "order", desc := "(II)I" } : Jvm.MethodName)) ∈ zTg := zt_10 (i := 148) (by decide +kernel) rfl
theorem zw_10_149 : (Jvm.Cond.instanceMethod ({ cls := "ResidueworksModel", name := "order", desc := "(II)I" } : Jvm.MethodName)) ∈ zTg := zt_10 (i := 149) (by decide +kernel) rfl
theorem zw_10_150 : (Jvm.Cond.selects "ResidueworksModel" ({ cls := "ResidueworksModel", name := "order", desc := "(II)I" } : Jvm.MethodName) ({ cls := "ResidueworksModel", name := "order", desc := "(II)I" } : Jvm.MethodName)) ∈ zTg := zt_10 (i := 150) (by decide +kernel) rfl
theorem zw_10_151 : (Jvm.Cond.code ({ cls := "ResidueworksModel", name := "order", desc := "(II)I" } : Jvm.MethodName) prog_12_method_70_code (4 : Nat) (Option.some Jvm.ClassFile.FieldType.int)) ∈ zTg := zt_10 (i := 151) (by decide +kernel) rfl
theorem zw_10_159 : (Jvm.Cond.methodLink "ResidueworksLaw" (256 : Nat) ({ cls := "ResidueworksModel", name := "generator", desc := "(I)I" } : Jvm.MethodName)) ∈ zTg := zt_10 (i := 159) (by decide +kernel) rfl
theorem zw_10_160 : (Jvm.Cond.instanceMethod ({ cls := "ResidueworksModel", name := "generator", desc := "(I)I" } : Jvm.MethodName)) ∈ zTg := zt_10 (i := 160) (by decide +kernel) rfl
theorem zw_10_161 : (Jvm.Cond.selects "ResidueworksModel" ({ cls := "ResidueworksModel", name := "generator", desc := "(I)I" } : Jvm.MethodName) ({ cls := "ResidueworksModel", name := "generator", desc := "(I)I" } : Jvm.MethodName)) ∈ zTg := zt_10 (i := 161) (by decide +kernel) rfl
theorem zw_10_162 : (Jvm.Cond.code ({ cls := "ResidueworksModel", name := "generator", desc := "(I)I" } : Jvm.MethodName) prog_12_method_71_code (5 : Nat) (Option.some Jvm.ClassFile.FieldType.int)) ∈ zTg := zt_10 (i := 162) (by decide +kernel) rfl
theorem zw_10_163 : (Jvm.Cond.methodLink "ResidueworksLaw" (259 : Nat) ({ cls := "ResidueworksModel", name := "isPrime", desc := "(I)Z" } : Jvm.MethodName)) ∈ zTg := zt_10 (i := 163) (by decide +kernel) rfl
theorem zw_10_164 : (Jvm.Cond.instanceMethod ({ cls := "ResidueworksModel", name := "isPrime", desc := "(I)Z" } : Jvm.MethodName)) ∈ zTg := zt_10 (i := 164) (by decide +kernel) rfl
theorem zw_10_165 : (Jvm.Cond.selects "ResidueworksModel" ({ cls := "ResidueworksModel", name := "isPrime", desc := "(I)Z" } : Jvm.MethodName) ({ cls := "ResidueworksModel", name := "isPrime", desc := "(I)Z" } : Jvm.MethodName)) ∈ zTg := zt_10 (i := 165) (by decide +kernel) rfl
theorem zw_10_166 : (Jvm.Cond.code ({ cls := "ResidueworksModel", name := "isPrime", desc := "(I)Z" } : Jvm.MethodName) prog_12_method_73_code (2 : Nat) (Option.some Jvm.ClassFile.FieldType.boolean)) ∈ zTg := zt_10 (i := 166) (by decide +kernel) rfl
theorem zw_10_171 : (Jvm.Cond.methodLink "ResidueworksLaw" (262 : Nat) ({ cls := "ResidueworksModel", name := "modRoot", desc := "(III)I" } : Jvm.MethodName)) ∈ zTg := zt_10 (i := 171) (by decide +kernel) rfl
theorem zw_10_172 : (Jvm.Cond.instanceMethod ({ cls := "ResidueworksModel", name := "modRoot", desc := "(III)I" } : Jvm.MethodName)) ∈ zTg := zt_10 (i := 172) (by decide +kernel) rfl
theorem zw_10_173 : (Jvm.Cond.selects "ResidueworksModel" ({ cls := "ResidueworksModel", name := "modRoot", desc := "(III)I" } : Jvm.MethodName) ({ cls := "ResidueworksModel", name := "modRoot", desc := "(III)I" } : Jvm.MethodName)) ∈ zTg := zt_10 (i := 173) (by decide +kernel) rfl
theorem zw_10_174 : (Jvm.Cond.code ({ cls := "ResidueworksModel", name := "modRoot", desc := "(III)I" } : Jvm.MethodName) prog_12_method_74_code (7 : Nat) (Option.some Jvm.ClassFile.FieldType.int)) ∈ zTg := zt_10 (i := 174) (by decide +kernel) rfl
theorem zw_10_175 : (Jvm.Cond.methodLink "ResidueworksLaw" (265 : Nat) ({ cls := "ResidueworksModel", name := "condition", desc := "(II)I" } : Jvm.MethodName)) ∈ zTg := zt_10 (i := 175) (by decide +kernel) rfl
theorem zw_10_176 : (Jvm.Cond.instanceMethod ({ cls := "ResidueworksModel", name := "condition", desc := "(II)I" } : Jvm.MethodName)) ∈ zTg := zt_10 (i := 176) (by decide +kernel) rfl
theorem zw_10_177 : (Jvm.Cond.selects "ResidueworksModel" ({ cls := "ResidueworksModel", name := "condition", desc := "(II)I" } : Jvm.MethodName) ({ cls := "ResidueworksModel", name := "condition", desc := "(II)I" } : Jvm.MethodName)) ∈ zTg := zt_10 (i := 177) (by decide +kernel) rfl
theorem zw_10_178 : (Jvm.Cond.code ({ cls := "ResidueworksModel", name := "condition", desc := "(II)I" } : Jvm.MethodName) prog_12_method_75_code (3 : Nat) (Option.some Jvm.ClassFile.FieldType.int)) ∈ zTg := zt_10 (i := 178) (by decide +kernel) rfl
theorem zw_10_179 : (Jvm.Cond.methodLink "ResidueworksLaw" (268 : Nat) ({ cls := "ResidueworksModel", name := "solve", desc := "(II)Z" } : Jvm.MethodName)) ∈ zTg := zt_10 (i := 179) (by decide +kernel) rfl
theorem zw_10_180 : (Jvm.Cond.instanceMethod ({ cls := "ResidueworksModel", name := "solve", desc := "(II)Z" } : Jvm.MethodName)) ∈ zTg := zt_10 (i := 180) (by decide +kernel) rfl
theorem zw_10_181 : (Jvm.Cond.selects "ResidueworksModel" ({ cls := "ResidueworksModel", name := "solve", desc := "(II)Z" } : Jvm.MethodName) ({ cls := "ResidueworksModel", name := "solve", desc := "(II)Z" } : Jvm.MethodName)) ∈ zTg := zt_10 (i := 181) (by decide +kernel) rfl
theorem zw_10_182 : (Jvm.Cond.code ({ cls := "ResidueworksModel", name := "solve", desc := "(II)Z" } : Jvm.MethodName) prog_12_method_77_code (10 : Nat) (Option.some Jvm.ClassFile.FieldType.boolean)) ∈ zTg := zt_10 (i := 182) (by decide +kernel) rfl
theorem zw_10_187 : (Jvm.Cond.methodLink "ResidueworksLaw" (272 : Nat) ({ cls := "ResidueworksModel", name := "forget", desc := "()I" } : Jvm.MethodName)) ∈ zTg := zt_10 (i := 187) (by decide +kernel) rfl
theorem zw_10_188 : (Jvm.Cond.instanceMethod ({ cls := "ResidueworksModel", name := "forget", desc := "()I" } : Jvm.MethodName)) ∈ zTg := zt_10 (i := 188) (by decide +kernel) rfl
theorem zw_10_189 : (Jvm.Cond.selects "ResidueworksModel" ({ cls := "ResidueworksModel", name := "forget", desc := "()I" } : Jvm.MethodName) ({ cls := "ResidueworksModel", name := "forget", desc := "()I" } : Jvm.MethodName)) ∈ zTg := zt_10 (i := 189) (by decide +kernel) rfl
theorem zw_10_190 : (Jvm.Cond.code ({ cls := "ResidueworksModel", name := "forget", desc := "()I" } : Jvm.MethodName) prog_12_method_78_code (2 : Nat) (Option.some Jvm.ClassFile.FieldType.int)) ∈ zTg := zt_10 (i := 190) (by decide +kernel) rfl
theorem zw_10_191 : (Jvm.Cond.methodLink "ResidueworksLaw" (275 : Nat) ({ cls := "ResidueworksModel", name := "root", desc := "(III)I" } : Jvm.MethodName)) ∈ zTg := zt_10 (i := 191) (by decide +kernel) rfl
theorem zw_10_192 : (Jvm.Cond.instanceMethod ({ cls := "ResidueworksModel", name := "root", desc := "(III)I" } : Jvm.MethodName)) ∈ zTg := zt_10 (i := 192) (by decide +kernel) rfl
theorem zw_10_193 : (Jvm.Cond.selects "ResidueworksModel" ({ cls := "ResidueworksModel", name := "root", desc := "(III)I" } : Jvm.MethodName) ({ cls := "ResidueworksModel", name := "root", desc := "(III)I" } : Jvm.MethodName)) ∈ zTg := zt_10 (i := 193) (by decide +kernel) rfl
theorem zw_10_194 : (Jvm.Cond.code ({ cls := "ResidueworksModel", name := "root", desc := "(III)I" } : Jvm.MethodName) prog_12_method_79_code (4 : Nat) (Option.some Jvm.ClassFile.FieldType.int)) ∈ zTg := zt_10 (i := 194) (by decide +kernel) rfl
theorem zw_10_195 : (Jvm.Cond.methodLink "ResidueworksLaw" (278 : Nat) ({ cls := "ResidueworksModel", name := "perfect", desc := "(I)I" } : Jvm.MethodName)) ∈ zTg := zt_10 (i := 195) (by decide +kernel) rfl
theorem zw_10_196 : (Jvm.Cond.instanceMethod ({ cls := "ResidueworksModel", name := "perfect", desc := "(I)I" } : Jvm.MethodName)) ∈ zTg := zt_10 (i := 196) (by decide +kernel) rfl
theorem zw_10_197 : (Jvm.Cond.selects "ResidueworksModel" ({ cls := "ResidueworksModel", name := "perfect", desc := "(I)I" } : Jvm.MethodName) ({ cls := "ResidueworksModel", name := "perfect", desc := "(I)I" } : Jvm.MethodName)) ∈ zTg := zt_10 (i := 197) (by decide +kernel) rfl
theorem zw_10_198 : (Jvm.Cond.code ({ cls := "ResidueworksModel", name := "perfect", desc := "(I)I" } : Jvm.MethodName) prog_12_method_80_code (4 : Nat) (Option.some Jvm.ClassFile.FieldType.int)) ∈ zTg := zt_10 (i := 198) (by decide +kernel) rfl
theorem zw_10_199 : (Jvm.Cond.methodLink "ResidueworksLaw" (282 : Nat) ({ cls := "ResidueworksModel", name := "share", desc := "(I)F" } : Jvm.MethodName)) ∈ zTg := zt_10 (i := 199) (by decide +kernel) rfl
theorem zw_10_200 : (Jvm.Cond.instanceMethod ({ cls := "ResidueworksModel", name := "share", desc := "(I)F" } : Jvm.MethodName)) ∈ zTg := zt_10 (i := 200) (by decide +kernel) rfl
theorem zw_10_201 : (Jvm.Cond.selects "ResidueworksModel" ({ cls := "ResidueworksModel", name := "share", desc := "(I)F" } : Jvm.MethodName) ({ cls := "ResidueworksModel", name := "share", desc := "(I)F" } : Jvm.MethodName)) ∈ zTg := zt_10 (i := 201) (by decide +kernel) rfl
theorem zw_10_202 : (Jvm.Cond.code ({ cls := "ResidueworksModel", name := "share", desc := "(I)F" } : Jvm.MethodName) prog_12_method_81_code (2 : Nat) (Option.some Jvm.ClassFile.FieldType.float)) ∈ zTg := zt_10 (i := 202) (by decide +kernel) rfl
theorem zw_10_203 : (Jvm.Cond.methodLink "ResidueworksLaw" (287 : Nat) ({ cls := "ResidueworksModel", name := "meanLength", desc := "()D" } : Jvm.MethodName)) ∈ zTg := zt_10 (i := 203) (by decide +kernel) rfl
theorem zw_10_204 : (Jvm.Cond.instanceMethod ({ cls := "ResidueworksModel", name := "meanLength", desc := "()D" } : Jvm.MethodName)) ∈ zTg := zt_10 (i := 204) (by decide +kernel) rfl
theorem zw_10_205 : (Jvm.Cond.selects "ResidueworksModel" ({ cls := "ResidueworksModel", name := "meanLength", desc := "()D" } : Jvm.MethodName) ({ cls := "ResidueworksModel", name := "meanLength", desc := "()D" } : Jvm.MethodName)) ∈ zTg := zt_10 (i := 205) (by decide +kernel) rfl
theorem zw_10_206 : (Jvm.Cond.code ({ cls := "ResidueworksModel", name := "meanLength", desc := "()D" } : Jvm.MethodName) prog_12_method_82_code (6 : Nat) (Option.some Jvm.ClassFile.FieldType.double)) ∈ zTg := zt_10 (i := 206) (by decide +kernel) rfl
theorem zw_10_208 : (Jvm.Cond.methodLink "ResidueworksLaw" (292 : Nat) ({ cls := "ResidueworksModel", name := "checksum", desc := "()J" } : Jvm.MethodName)) ∈ zTg := zt_10 (i := 208) (by decide +kernel) rfl
theorem zw_10_209 : (Jvm.Cond.instanceMethod ({ cls := "ResidueworksModel", name := "checksum", desc := "()J" } : Jvm.MethodName)) ∈ zTg := zt_10 (i := 209) (by decide +kernel) rfl
theorem zw_10_210 : (Jvm.Cond.selects "ResidueworksModel" ({ cls := "ResidueworksModel", name := "checksum", desc := "()J" } : Jvm.MethodName) ({ cls := "ResidueworksModel", name := "checksum", desc := "()J" } : Jvm.MethodName)) ∈ zTg := zt_10 (i := 210) (by decide +kernel) rfl
theorem zw_10_211 : (Jvm.Cond.code ({ cls := "ResidueworksModel", name := "checksum", desc := "()J" } : Jvm.MethodName) prog_12_method_83_code (8 : Nat) (Option.some Jvm.ClassFile.FieldType.long)) ∈ zTg := zt_10 (i := 211) (by decide +kernel) rfl
theorem zw_11_35 : (Jvm.Cond.methodLink "ResidueworksLaw" (295 : Nat) ({ cls := "ResidueworksModel", name := "isTrue", desc := "(III)Z" } : Jvm.MethodName)) ∈ zTg := zt_11 (i := 35) (by decide +kernel) rfl
theorem zw_11_36 : (Jvm.Cond.instanceMethod ({ cls := "ResidueworksModel", name := "isTrue", desc := "(III)Z" } : Jvm.MethodName)) ∈ zTg := zt_11 (i := 36) (by decide +kernel) rfl
theorem zw_11_37 : (Jvm.Cond.selects "ResidueworksModel" ({ cls := "ResidueworksModel", name := "isTrue", desc := "(III)Z" } : Jvm.MethodName) ({ cls := "ResidueworksModel", name := "isTrue", desc := "(III)Z" } : Jvm.MethodName)) ∈ zTg := zt_11 (i := 37) (by decide +kernel) rfl
theorem zw_11_38 : (Jvm.Cond.code ({ cls := "ResidueworksModel", name := "isTrue", desc := "(III)Z" } : Jvm.MethodName) prog_12_method_84_code (4 : Nat) (Option.some Jvm.ClassFile.FieldType.boolean)) ∈ zTg := zt_11 (i := 38) (by decide +kernel) rfl
theorem zw_11_39 : (Jvm.Cond.constantLong "ResidueworksLaw" (147 : Nat) (4294967295 : Int64)) ∈ zTg := zt_11 (i := 39) (by decide +kernel) rfl
theorem zw_11_40 : (Jvm.Cond.arrayClass Jvm.ClassFile.FieldType.long) ∈ zTg := zt_11 (i := 40) (by decide +kernel) rfl
theorem zw_11_41 : (Jvm.Cond.arrayClass Jvm.ClassFile.FieldType.double) ∈ zTg := zt_11 (i := 41) (by decide +kernel) rfl
theorem zws_33 : Cond.selects "ResidueworksModel" ⟨"ResidueworksModel", "fails", "(ZI)Z"⟩ ⟨"ResidueworksModel", "fails", "(ZI)Z"⟩ ∈ zTg := zsel (i := 33) (q := (⟨"ResidueworksModel", "fails", "(ZI)Z"⟩, 6)) (by decide +kernel)
theorem zws_34 : Cond.selects "ResidueworksModel" ⟨"ResidueworksModel", "lays", "(ILResidueworksModel$Whole;)I"⟩ ⟨"ResidueworksModel", "lays", "(ILResidueworksModel$Whole;)I"⟩ ∈ zTg := zsel (i := 34) (q := (⟨"ResidueworksModel", "lays", "(ILResidueworksModel$Whole;)I"⟩, 6)) (by decide +kernel)
theorem zw_oi : Cond.code Lib.objectInit ⟨#[0xb1]⟩ 1 none ∈ zTg := zw_1_49
theorem zc_1 : zCode zmd_1 ∈ zTg := zw_1_46
theorem zd_1 : zdsc zmd_1.1 0 := ⟨by decide, by decide, by decide +kernel⟩
theorem zc_10 : zCode zmd_10 ∈ zTg := zw_2_63
theorem zd_10 : zdsc zmd_10.1 1 := ⟨by decide, by decide, by decide +kernel⟩
theorem zc_11 : zCode zmd_11 ∈ zTg := zw_2_67
theorem zd_11 : zdsc zmd_11.1 1 := ⟨by decide, by decide, by decide +kernel⟩
theorem zc_12 : zCode zmd_12 ∈ zTg := zw_2_72
theorem zd_12 : zdsc zmd_12.1 2 := ⟨by decide, by decide, by decide +kernel⟩
theorem zc_13 : zCode zmd_13 ∈ zTg := zw_2_76
theorem zd_13 : zdsc zmd_13.1 2 := ⟨by decide, by decide, by decide +kernel⟩
theorem zc_14 : zCode zmd_14 ∈ zTg := zw_6_197
theorem zd_14 : zdsc zmd_14.1 0 := ⟨by decide, by decide, by decide +kernel⟩
theorem zc_20 : zCode zmd_20 ∈ zTg := zw_7_24
theorem zd_20 : zdsc zmd_20.1 1 := ⟨by decide, by decide, by decide +kernel⟩
theorem zc_24 : zCode zmd_24 ∈ zTg := zw_2_225
theorem zd_24 : zdsc zmd_24.1 4 := ⟨by decide, by decide, by decide +kernel⟩
theorem zc_25 : zCode zmd_25 ∈ zTg := zw_3_68
theorem zd_25 : zdsc zmd_25.1 2 := ⟨by decide, by decide, by decide +kernel⟩
theorem zc_26 : zCode zmd_26 ∈ zTg := zw_3_72
theorem zd_26 : zdsc zmd_26.1 1 := ⟨by decide, by decide, by decide +kernel⟩
theorem zc_27 : zCode zmd_27 ∈ zTg := zw_2_175
theorem zd_27 : zdsc zmd_27.1 0 := ⟨by decide, by decide, by decide +kernel⟩
theorem zc_28 : zCode zmd_28 ∈ zTg := zw_2_179
theorem zd_28 : zdsc zmd_28.1 0 := ⟨by decide, by decide, by decide +kernel⟩
theorem zc_29 : zCode zmd_29 ∈ zTg := zw_2_183
theorem zd_29 : zdsc zmd_29.1 1 := ⟨by decide, by decide, by decide +kernel⟩
theorem zc_30 : zCode zmd_30 ∈ zTg := zw_2_186
theorem zd_30 : zdsc zmd_30.1 1 := ⟨by decide, by decide, by decide +kernel⟩
theorem zc_31 : zCode zmd_31 ∈ zTg := zw_7_73
theorem zd_31 : zdsc zmd_31.1 2 := ⟨by decide, by decide, by decide +kernel⟩
theorem zc_32 : zCode zmd_32 ∈ zTg := zw_7_76
theorem zd_32 : zdsc zmd_32.1 1 := ⟨by decide, by decide, by decide +kernel⟩
theorem zc_34 : zCode zmd_34 ∈ zTg := zw_7_84
theorem zd_34 : zdsc zmd_34.1 2 := ⟨by decide, by decide, by decide +kernel⟩
theorem zc_35 : zCode zmd_35 ∈ zTg := zw_7_88
theorem zd_35 : zdsc zmd_35.1 2 := ⟨by decide, by decide, by decide +kernel⟩
theorem zc_39 : zCode zmd_39 ∈ zTg := zw_7_69
theorem zd_39 : zdsc zmd_39.1 0 := ⟨by decide, by decide, by decide +kernel⟩
theorem zc_40 : zCode zmd_40 ∈ zTg := zw_2_191
theorem zd_40 : zdsc zmd_40.1 0 := ⟨by decide, by decide, by decide +kernel⟩
theorem zc_43 : zCode zmd_43 ∈ zTg := zw_3_89
theorem zd_43 : zdsc zmd_43.1 4 := ⟨by decide, by decide, by decide +kernel⟩
theorem zc_50 : zCode zmd_50 ∈ zTg := zw_7_108
theorem zd_50 : zdsc zmd_50.1 2 := ⟨by decide, by decide, by decide +kernel⟩
theorem zc_56 : zCode zmd_56 ∈ zTg := zw_3_141
theorem zd_56 : zdsc zmd_56.1 4 := ⟨by decide, by decide, by decide +kernel⟩
theorem zc_58 : zCode zmd_58 ∈ zTg := zw_7_160
theorem zd_58 : zdsc zmd_58.1 2 := ⟨by decide, by decide, by decide +kernel⟩
theorem zc_59 : zCode zmd_59 ∈ zTg := zw_3_148
theorem zd_59 : zdsc zmd_59.1 4 := ⟨by decide, by decide, by decide +kernel⟩
theorem zc_64 : zCode zmd_64 ∈ zTg := zw_7_164
theorem zd_64 : zdsc zmd_64.1 2 := ⟨by decide, by decide, by decide +kernel⟩
theorem zc_69 : zCode zmd_69 ∈ zTg := zw_3_176
theorem zd_69 : zdsc zmd_69.1 4 := ⟨by decide, by decide, by decide +kernel⟩
theorem zc_71 : zCode zmd_71 ∈ zTg := zw_7_179
theorem zd_71 : zdsc zmd_71.1 2 := ⟨by decide, by decide, by decide +kernel⟩
theorem zc_83 : zCode zmd_83 ∈ zTg := zw_3_195
theorem zd_83 : zdsc zmd_83.1 3 := ⟨by decide, by decide, by decide +kernel⟩
theorem zc_85 : zCode zmd_85 ∈ zTg := zw_8_36
theorem zd_85 : zdsc zmd_85.1 1 := ⟨by decide, by decide, by decide +kernel⟩
theorem zc_86 : zCode zmd_86 ∈ zTg := zw_3_219
theorem zd_86 : zdsc zmd_86.1 4 := ⟨by decide, by decide, by decide +kernel⟩
theorem zc_88 : zCode zmd_88 ∈ zTg := zw_8_40
theorem zd_88 : zdsc zmd_88.1 2 := ⟨by decide, by decide, by decide +kernel⟩
theorem zc_93 : zCode zmd_93 ∈ zTg := zw_3_234
theorem zd_93 : zdsc zmd_93.1 6 := ⟨by decide, by decide, by decide +kernel⟩
theorem zc_95 : zCode zmd_95 ∈ zTg := zw_8_48
theorem zd_95 : zdsc zmd_95.1 4 := ⟨by decide, by decide, by decide +kernel⟩
theorem zc_116 : zCode zmd_116 ∈ zTg := zw_4_87
theorem zd_116 : zdsc zmd_116.1 5 := ⟨by decide, by decide, by decide +kernel⟩
theorem zc_119 : zCode zmd_119 ∈ zTg := zw_8_112
theorem zd_119 : zdsc zmd_119.1 3 := ⟨by decide, by decide, by decide +kernel⟩
theorem zc_125 : zCode zmd_125 ∈ zTg := zw_4_120
theorem zd_125 : zdsc zmd_125.1 5 := ⟨by decide, by decide, by decide +kernel⟩
theorem zc_129 : zCode zmd_129 ∈ zTg := zw_8_125
theorem zd_129 : zdsc zmd_129.1 3 := ⟨by decide, by decide, by decide +kernel⟩
theorem zc_131 : zCode zmd_131 ∈ zTg := zw_4_136
theorem zd_131 : zdsc zmd_131.1 4 := ⟨by decide, by decide, by decide +kernel⟩
theorem zc_133 : zCode zmd_133 ∈ zTg := zw_8_130
theorem zd_133 : zdsc zmd_133.1 2 := ⟨by decide, by decide, by decide +kernel⟩
theorem zc_134 : zCode zmd_134 ∈ zTg := zw_4_143
theorem zd_134 : zdsc zmd_134.1 5 := ⟨by decide, by decide, by decide +kernel⟩
theorem zc_137 : zCode zmd_137 ∈ zTg := zw_8_134
theorem zd_137 : zdsc zmd_137.1 3 := ⟨by decide, by decide, by decide +kernel⟩
theorem zc_138 : zCode zmd_138 ∈ zTg := zw_4_152
theorem zd_138 : zdsc zmd_138.1 5 := ⟨by decide, by decide, by decide +kernel⟩
theorem zc_141 : zCode zmd_141 ∈ zTg := zw_8_140
theorem zd_141 : zdsc zmd_141.1 3 := ⟨by decide, by decide, by decide +kernel⟩
theorem zc_142 : zCode zmd_142 ∈ zTg := zw_4_160
theorem zd_142 : zdsc zmd_142.1 6 := ⟨by decide, by decide, by decide +kernel⟩
theorem zc_144 : zCode zmd_144 ∈ zTg := zw_8_145
theorem zd_144 : zdsc zmd_144.1 4 := ⟨by decide, by decide, by decide +kernel⟩
theorem zc_145 : zCode zmd_145 ∈ zTg := zw_4_168
theorem zd_145 : zdsc zmd_145.1 3 := ⟨by decide, by decide, by decide +kernel⟩
theorem zc_147 : zCode zmd_147 ∈ zTg := zw_8_149
theorem zd_147 : zdsc zmd_147.1 1 := ⟨by decide, by decide, by decide +kernel⟩
theorem zc_157 : zCode zmd_157 ∈ zTg := zw_2_159
theorem zd_157 : zdsc zmd_157.1 0 := ⟨by decide, by decide, by decide +kernel⟩
theorem zc_158 : zCode zmd_158 ∈ zTg := zw_9_0
theorem zd_158 : zdsc zmd_158.1 0 := ⟨by decide, by decide, by decide +kernel⟩
theorem zc_161 : zCode zmd_161 ∈ zTg := zw_4_184
theorem zd_161 : zdsc zmd_161.1 3 := ⟨by decide, by decide, by decide +kernel⟩
theorem zc_163 : zCode zmd_163 ∈ zTg := zw_9_161
theorem zd_163 : zdsc zmd_163.1 1 := ⟨by decide, by decide, by decide +kernel⟩
theorem zc_164 : zCode zmd_164 ∈ zTg := zw_4_192
theorem zd_164 : zdsc zmd_164.1 4 := ⟨by decide, by decide, by decide +kernel⟩
theorem zc_168 : zCode zmd_168 ∈ zTg := zw_9_175
theorem zd_168 : zdsc zmd_168.1 2 := ⟨by decide, by decide, by decide +kernel⟩
theorem zc_169 : zCode zmd_169 ∈ zTg := zw_4_211
theorem zd_169 : zdsc zmd_169.1 4 := ⟨by decide, by decide, by decide +kernel⟩
theorem zc_173 : zCode zmd_173 ∈ zTg := zw_9_184
theorem zd_173 : zdsc zmd_173.1 2 := ⟨by decide, by decide, by decide +kernel⟩
theorem zc_181 : zCode zmd_181 ∈ zTg := zw_4_235
theorem zd_181 : zdsc zmd_181.1 3 := ⟨by decide, by decide, by decide +kernel⟩
theorem zc_185 : zCode zmd_185 ∈ zTg := zw_9_200
theorem zd_185 : zdsc zmd_185.1 1 := ⟨by decide, by decide, by decide +kernel⟩
theorem zc_192 : zCode zmd_192 ∈ zTg := zw_2_163
theorem zd_192 : zdsc zmd_192.1 0 := ⟨by decide, by decide, by decide +kernel⟩
theorem zc_193 : zCode zmd_193 ∈ zTg := zw_10_56
theorem zd_193 : zdsc zmd_193.1 0 := ⟨by decide, by decide, by decide +kernel⟩
theorem zc_195 : zCode zmd_195 ∈ zTg := zw_5_11
theorem zd_195 : zdsc zmd_195.1 3 := ⟨by decide, by decide, by decide +kernel⟩
theorem zc_197 : zCode zmd_197 ∈ zTg := zw_10_69
theorem zd_197 : zdsc zmd_197.1 1 := ⟨by decide, by decide, by decide +kernel⟩
theorem zc_199 : zCode zmd_199 ∈ zTg := zw_5_27
theorem zd_199 : zdsc zmd_199.1 3 := ⟨by decide, by decide, by decide +kernel⟩
theorem zc_202 : zCode zmd_202 ∈ zTg := zw_10_104
theorem zd_202 : zdsc zmd_202.1 1 := ⟨by decide, by decide, by decide +kernel⟩
theorem zc_203 : zCode zmd_203 ∈ zTg := zw_5_41
theorem zd_203 : zdsc zmd_203.1 3 := ⟨by decide, by decide, by decide +kernel⟩
theorem zc_205 : zCode zmd_205 ∈ zTg := zw_10_109
theorem zd_205 : zdsc zmd_205.1 1 := ⟨by decide, by decide, by decide +kernel⟩
theorem zc_206 : zCode zmd_206 ∈ zTg := zw_5_48
theorem zd_206 : zdsc zmd_206.1 6 := ⟨by decide, by decide, by decide +kernel⟩
theorem zc_208 : zCode zmd_208 ∈ zTg := zw_10_113
theorem zd_208 : zdsc zmd_208.1 4 := ⟨by decide, by decide, by decide +kernel⟩
theorem zc_209 : zCode zmd_209 ∈ zTg := zw_5_79
theorem zd_209 : zdsc zmd_209.1 5 := ⟨by decide, by decide, by decide +kernel⟩
theorem zc_211 : zCode zmd_211 ∈ zTg := zw_10_126
theorem zd_211 : zdsc zmd_211.1 3 := ⟨by decide, by decide, by decide +kernel⟩
theorem zc_212 : zCode zmd_212 ∈ zTg := zw_5_86
theorem zd_212 : zdsc zmd_212.1 4 := ⟨by decide, by decide, by decide +kernel⟩
theorem zc_214 : zCode zmd_214 ∈ zTg := zw_10_130
theorem zd_214 : zdsc zmd_214.1 2 := ⟨by decide, by decide, by decide +kernel⟩
theorem zc_215 : zCode zmd_215 ∈ zTg := zw_5_101
theorem zd_215 : zdsc zmd_215.1 3 := ⟨by decide, by decide, by decide +kernel⟩
theorem zc_218 : zCode zmd_218 ∈ zTg := zw_10_137
theorem zd_218 : zdsc zmd_218.1 1 := ⟨by decide, by decide, by decide +kernel⟩
theorem zc_221 : zCode zmd_221 ∈ zTg := zw_5_123
theorem zd_221 : zdsc zmd_221.1 4 := ⟨by decide, by decide, by decide +kernel⟩
theorem zc_223 : zCode zmd_223 ∈ zTg := zw_10_151
theorem zd_223 : zdsc zmd_223.1 2 := ⟨by decide, by decide, by decide +kernel⟩
theorem zc_224 : zCode zmd_224 ∈ zTg := zw_5_140
theorem zd_224 : zdsc zmd_224.1 3 := ⟨by decide, by decide, by decide +kernel⟩
theorem zc_226 : zCode zmd_226 ∈ zTg := zw_10_162
theorem zd_226 : zdsc zmd_226.1 1 := ⟨by decide, by decide, by decide +kernel⟩
theorem zc_227 : zCode zmd_227 ∈ zTg := zw_5_156
theorem zd_227 : zdsc zmd_227.1 3 := ⟨by decide, by decide, by decide +kernel⟩
theorem zc_230 : zCode zmd_230 ∈ zTg := zw_10_166
theorem zd_230 : zdsc zmd_230.1 1 := ⟨by decide, by decide, by decide +kernel⟩
theorem zc_232 : zCode zmd_232 ∈ zTg := zw_5_168
theorem zd_232 : zdsc zmd_232.1 5 := ⟨by decide, by decide, by decide +kernel⟩
theorem zc_234 : zCode zmd_234 ∈ zTg := zw_10_174
theorem zd_234 : zdsc zmd_234.1 3 := ⟨by decide, by decide, by decide +kernel⟩
theorem zc_235 : zCode zmd_235 ∈ zTg := zw_5_205
theorem zd_235 : zdsc zmd_235.1 4 := ⟨by decide, by decide, by decide +kernel⟩
theorem zc_237 : zCode zmd_237 ∈ zTg := zw_10_178
theorem zd_237 : zdsc zmd_237.1 2 := ⟨by decide, by decide, by decide +kernel⟩
theorem zc_238 : zCode zmd_238 ∈ zTg := zw_5_223
theorem zd_238 : zdsc zmd_238.1 4 := ⟨by decide, by decide, by decide +kernel⟩
theorem zc_242 : zCode zmd_242 ∈ zTg := zw_10_182
theorem zd_242 : zdsc zmd_242.1 2 := ⟨by decide, by decide, by decide +kernel⟩
theorem zc_244 : zCode zmd_244 ∈ zTg := zw_2_167
theorem zd_244 : zdsc zmd_244.1 0 := ⟨by decide, by decide, by decide +kernel⟩
theorem zc_245 : zCode zmd_245 ∈ zTg := zw_10_190
theorem zd_245 : zdsc zmd_245.1 0 := ⟨by decide, by decide, by decide +kernel⟩
theorem zc_246 : zCode zmd_246 ∈ zTg := zw_6_7
theorem zd_246 : zdsc zmd_246.1 5 := ⟨by decide, by decide, by decide +kernel⟩
theorem zc_248 : zCode zmd_248 ∈ zTg := zw_10_194
theorem zd_248 : zdsc zmd_248.1 3 := ⟨by decide, by decide, by decide +kernel⟩
theorem zc_249 : zCode zmd_249 ∈ zTg := zw_6_14
theorem zd_249 : zdsc zmd_249.1 3 := ⟨by decide, by decide, by decide +kernel⟩
theorem zc_251 : zCode zmd_251 ∈ zTg := zw_10_198
theorem zd_251 : zdsc zmd_251.1 1 := ⟨by decide, by decide, by decide +kernel⟩
theorem zc_252 : zCode zmd_252 ∈ zTg := zw_6_36
theorem zd_252 : zdsc zmd_252.1 3 := ⟨by decide, by decide, by decide +kernel⟩
theorem zc_254 : zCode zmd_254 ∈ zTg := zw_10_202
theorem zd_254 : zdsc zmd_254.1 1 := ⟨by decide, by decide, by decide +kernel⟩
theorem zc_255 : zCode zmd_255 ∈ zTg := zw_2_171
theorem zd_255 : zdsc zmd_255.1 0 := ⟨by decide, by decide, by decide +kernel⟩
theorem zc_256 : zCode zmd_256 ∈ zTg := zw_10_206
theorem zd_256 : zdsc zmd_256.1 0 := ⟨by decide, by decide, by decide +kernel⟩
theorem zc_257 : zCode zmd_257 ∈ zTg := zw_2_199
theorem zd_257 : zdsc zmd_257.1 0 := ⟨by decide, by decide, by decide +kernel⟩
theorem zc_259 : zCode zmd_259 ∈ zTg := zw_10_211
theorem zd_259 : zdsc zmd_259.1 0 := ⟨by decide, by decide, by decide +kernel⟩
theorem zc_263 : zCode zmd_263 ∈ zTg := zw_6_44
theorem zd_263 : zdsc zmd_263.1 5 := ⟨by decide, by decide, by decide +kernel⟩
theorem zc_265 : zCode zmd_265 ∈ zTg := zw_11_38
theorem zd_265 : zdsc zmd_265.1 3 := ⟨by decide, by decide, by decide +kernel⟩
theorem zth_201_205_0 : zThw "Residueworks" 201 205 0 := ⟨zw_3_73, zw_1_24, zThi (by decide +kernel), by decide +kernel, by decide +kernel, by decide +kernel⟩
theorem zu_X0 : ∀ w ∈ u_ws RX0 TX0 12, w ∈ zTg := zwin (by decide +kernel)
def zfv_X0 : List Value := [.null, .null, .int 0, .null, .null, .null, .null, .null, .null, .null, .null, .null]
theorem zfs_X0 : ∀ (E : zen) (ad : zam), zall E ad [5, 5, 0, 5, 5, 5, 5, 5, 5, 5, 5, 5] zfv_X0 := fun _ _ => zall.cons ((zr5 (v := 5) rfl _).mpr rfl) (zall.cons ((zr5 (v := 5) rfl _).mpr rfl) (zall.cons (zn0' (a := 0) (by decide)) (zall.cons ((zr5 (v := 5) rfl _).mpr rfl) (zall.cons ((zr5 (v := 5) rfl _).mpr rfl) (zall.cons ((zr5 (v := 5) rfl _).mpr rfl) (zall.cons ((zr5 (v := 5) rfl _).mpr rfl) (zall.cons ((zr5 (v := 5) rfl _).mpr rfl) (zall.cons ((zr5 (v := 5) rfl _).mpr rfl) (zall.cons ((zr5 (v := 5) rfl _).mpr rfl) (zall.cons ((zr5 (v := 5) rfl _).mpr rfl) (zall.cons ((zr5 (v := 5) rfl _).mpr rfl) zall.nil)))))))))))
theorem zdf_X0 : ∀ j, j < 12 → defaultValue (tyX0 j) = vp_V zfv_X0 j := by decide +kernel
theorem zu_X1 : ∀ w ∈ u_ws RX1 TX1 3, w ∈ zTg := zwin (by decide +kernel)
def zfv_X1 : List Value := [.null, .null, .null]
theorem zfs_X1 : ∀ (E : zen) (ad : zam), zall E ad [5, 5, 5] zfv_X1 := fun _ _ => zall.cons ((zr5 (v := 5) rfl _).mpr rfl) (zall.cons ((zr5 (v := 5) rfl _).mpr rfl) (zall.cons ((zr5 (v := 5) rfl _).mpr rfl) zall.nil))
theorem zdf_X1 : ∀ j, j < 3 → defaultValue (tyX1 j) = vp_V zfv_X1 j := by decide +kernel
theorem zu_X2 : ∀ w ∈ u_ws RX2 TX2 11, w ∈ zTg := zwin (by decide +kernel)
def zfv_X2 : List Value := [.null, .null, .null, .null, .null, .null, .null, .null, .null, .null, .null]
theorem zfs_X2 : ∀ (E : zen) (ad : zam), zall E ad [5, 5, 5, 5, 5, 5, 5, 5, 5, 5, 5] zfv_X2 := fun _ _ => zall.cons ((zr5 (v := 5) rfl _).mpr rfl) (zall.cons ((zr5 (v := 5) rfl _).mpr rfl) (zall.cons ((zr5 (v := 5) rfl _).mpr rfl) (zall.cons ((zr5 (v := 5) rfl _).mpr rfl) (zall.cons ((zr5 (v := 5) rfl _).mpr rfl) (zall.cons ((zr5 (v := 5) rfl _).mpr rfl) (zall.cons ((zr5 (v := 5) rfl _).mpr rfl) (zall.cons ((zr5 (v := 5) rfl _).mpr rfl) (zall.cons ((zr5 (v := 5) rfl _).mpr rfl) (zall.cons ((zr5 (v := 5) rfl _).mpr rfl) (zall.cons ((zr5 (v := 5) rfl _).mpr rfl) zall.nil))))))))))
theorem zdf_X2 : ∀ j, j < 11 → defaultValue (tyX2 j) = vp_V zfv_X2 j := by decide +kernel
theorem zu_X3 : ∀ w ∈ u_ws RX3 TX3 6, w ∈ zTg := zwin (by decide +kernel)
def zfv_X3 : List Value := [.null, .null, .null, .null, .null, .null]
theorem zfs_X3 : ∀ (E : zen) (ad : zam), zall E ad [5, 5, 5, 5, 5, 5] zfv_X3 := fun _ _ => zall.cons ((zr5 (v := 5) rfl _).mpr rfl) (zall.cons ((zr5 (v := 5) rfl _).mpr rfl) (zall.cons ((zr5 (v := 5) rfl _).mpr rfl) (zall.cons ((zr5 (v := 5) rfl _).mpr rfl) (zall.cons ((zr5 (v := 5) rfl _).mpr rfl) (zall.cons ((zr5 (v := 5) rfl _).mpr rfl) zall.nil)))))
theorem zdf_X3 : ∀ j, j < 6 → defaultValue (tyX3 j) = vp_V zfv_X3 j := by decide +kernel
theorem zu_X4 : ∀ w ∈ u_ws RX4 TX4 3, w ∈ zTg := zwin (by decide +kernel)
def zfv_X4 : List Value := [.null, .null, .int 0]
theorem zfs_X4 : ∀ (E : zen) (ad : zam), zall E ad [5, 5, 0] zfv_X4 := fun _ _ => zall.cons ((zr5 (v := 5) rfl _).mpr rfl) (zall.cons ((zr5 (v := 5) rfl _).mpr rfl) (zall.cons (zn0' (a := 0) (by decide)) zall.nil))
theorem zdf_X4 : ∀ j, j < 3 → defaultValue (tyX4 j) = vp_V zfv_X4 j := by decide +kernel
theorem zu_X6 : ∀ w ∈ u_ws RX6 TX6 3, w ∈ zTg := zwin (by decide +kernel)
def zfv_X6 : List Value := [.null, .null, .int 0]
theorem zfs_X6 : ∀ (E : zen) (ad : zam), zall E ad [5, 5, 0] zfv_X6 := fun _ _ => zall.cons ((zr5 (v := 5) rfl _).mpr rfl) (zall.cons ((zr5 (v := 5) rfl _).mpr rfl) (zall.cons (zn0' (a := 0) (by decide)) zall.nil))
theorem zdf_X6 : ∀ j, j < 3 → defaultValue (tyX6 j) = vp_V zfv_X6 j := by decide +kernel
theorem zu_X7 : ∀ w ∈ u_ws RX7 TX7 15, w ∈ zTg := zwin (by decide +kernel)
def zfv_X7 : List Value := [.null, .null, .null, .null, .null, .null, .null, .null, .null, .null, .null, .null, .null, .null, .null]
theorem zfs_X7 : ∀ (E : zen) (ad : zam), zall E ad [5, 5, 5, 5, 5, 5, 5, 5, 5, 5, 5, 5, 5, 5, 5] zfv_X7 := fun _ _ => zall.cons ((zr5 (v := 5) rfl _).mpr rfl) (zall.cons ((zr5 (v := 5) rfl _).mpr rfl) (zall.cons ((zr5 (v := 5) rfl _).mpr rfl) (zall.cons ((zr5 (v := 5) rfl _).mpr rfl) (zall.cons ((zr5 (v := 5) rfl _).mpr rfl) (zall.cons ((zr5 (v := 5) rfl _).mpr rfl) (zall.cons ((zr5 (v := 5) rfl _).mpr rfl) (zall.cons ((zr5 (v := 5) rfl _).mpr rfl) (zall.cons ((zr5 (v := 5) rfl _).mpr rfl) (zall.cons ((zr5 (v := 5) rfl _).mpr rfl) (zall.cons ((zr5 (v := 5) rfl _).mpr rfl) (zall.cons ((zr5 (v := 5) rfl _).mpr rfl) (zall.cons ((zr5 (v := 5) rfl _).mpr rfl) (zall.cons ((zr5 (v := 5) rfl _).mpr rfl) (zall.cons ((zr5 (v := 5) rfl _).mpr rfl) zall.nil))))))))))))))
theorem zdf_X7 : ∀ j, j < 15 → defaultValue (tyX7 j) = vp_V zfv_X7 j := by decide +kernel
theorem zu_X8 : ∀ w ∈ u_ws RX8 TX8 3, w ∈ zTg := zwin (by decide +kernel)
def zfv_X8 : List Value := [.null, .int 0, .int 0]
theorem zfs_X8 : ∀ (E : zen) (ad : zam), zall E ad [5, 0, 0] zfv_X8 := fun _ _ => zall.cons ((zr5 (v := 5) rfl _).mpr rfl) (zall.cons (zn0' (a := 0) (by decide)) (zall.cons (zn0' (a := 0) (by decide)) zall.nil))
theorem zdf_X8 : ∀ j, j < 3 → defaultValue (tyX8 j) = vp_V zfv_X8 j := by decide +kernel
theorem zu_X9 : ∀ w ∈ u_ws RX9 TX9 10, w ∈ zTg := zwin (by decide +kernel)
def zfv_X9 : List Value := [.null, .null, .null, .null, .null, .null, .null, .null, .null, .null]
theorem zfs_X9 : ∀ (E : zen) (ad : zam), zall E ad [5, 5, 5, 5, 5, 5, 5, 5, 5, 5] zfv_X9 := fun _ _ => zall.cons ((zr5 (v := 5) rfl _).mpr rfl) (zall.cons ((zr5 (v := 5) rfl _).mpr rfl) (zall.cons ((zr5 (v := 5) rfl _).mpr rfl) (zall.cons ((zr5 (v := 5) rfl _).mpr rfl) (zall.cons ((zr5 (v := 5) rfl _).mpr rfl) (zall.cons ((zr5 (v := 5) rfl _).mpr rfl) (zall.cons ((zr5 (v := 5) rfl _).mpr rfl) (zall.cons ((zr5 (v := 5) rfl _).mpr rfl) (zall.cons ((zr5 (v := 5) rfl _).mpr rfl) (zall.cons ((zr5 (v := 5) rfl _).mpr rfl) zall.nil)))))))))
theorem zdf_X9 : ∀ j, j < 10 → defaultValue (tyX9 j) = vp_V zfv_X9 j := by decide +kernel
theorem zu_X10 : ∀ w ∈ u_ws RX10 TX10 2, w ∈ zTg := zwin (by decide +kernel)
def zfv_X10 : List Value := [.int 0, .null]
theorem zfs_X10 : ∀ (E : zen) (ad : zam), zall E ad [0, 5] zfv_X10 := fun _ _ => zall.cons (zn0' (a := 0) (by decide)) (zall.cons ((zr5 (v := 5) rfl _).mpr rfl) zall.nil)
theorem zdf_X10 : ∀ j, j < 2 → defaultValue (tyX10 j) = vp_V zfv_X10 j := by decide +kernel
theorem zu_X11 : ∀ w ∈ u_ws RX11 TX11 6, w ∈ zTg := zwin (by decide +kernel)
def zfv_X11 : List Value := [.null, .null, .null, .null, .null, .int 0]
theorem zfs_X11 : ∀ (E : zen) (ad : zam), zall E ad [5, 5, 5, 5, 5, 0] zfv_X11 := fun _ _ => zall.cons ((zr5 (v := 5) rfl _).mpr rfl) (zall.cons ((zr5 (v := 5) rfl _).mpr rfl) (zall.cons ((zr5 (v := 5) rfl _).mpr rfl) (zall.cons ((zr5 (v := 5) rfl _).mpr rfl) (zall.cons ((zr5 (v := 5) rfl _).mpr rfl) (zall.cons (zn0' (a := 0) (by decide)) zall.nil)))))
theorem zdf_X11 : ∀ j, j < 6 → defaultValue (tyX11 j) = vp_V zfv_X11 j := by decide +kernel
theorem zu_J4 : ∀ w ∈ u_ws RJ4 TJ4 4, w ∈ zTg := zwin (by decide +kernel)
def zfv_J4 : List Value := [.null, .int 0, .int 0, .int 0]
theorem zfs_J4 : ∀ (E : zen) (ad : zam), zall E ad [5, 0, 0, 0] zfv_J4 := fun _ _ => zall.cons ((zr5 (v := 5) rfl _).mpr rfl) (zall.cons (zn0' (a := 0) (by decide)) (zall.cons (zn0' (a := 0) (by decide)) (zall.cons (zn0' (a := 0) (by decide)) zall.nil)))
theorem zdf_J4 : ∀ j, j < 4 → defaultValue (tyJ4 j) = vp_V zfv_J4 j := by decide +kernel
theorem zu_Jx4a65c : ∀ w ∈ u_ws RJx4a65c TJx4a65c 3, w ∈ zTg := zwin (by decide +kernel)
def zfv_Jx4a65c : List Value := [.int 0, .null, .int 0]
theorem zfs_Jx4a65c : ∀ (E : zen) (ad : zam), zall E ad [0, 5, 0] zfv_Jx4a65c := fun _ _ => zall.cons (zn0' (a := 0) (by decide)) (zall.cons ((zr5 (v := 5) rfl _).mpr rfl) (zall.cons (zn0' (a := 0) (by decide)) zall.nil))
theorem zdf_Jx4a65c : ∀ j, j < 3 → defaultValue (tyJx4a65c j) = vp_V zfv_Jx4a65c j := by decide +kernel
theorem zu_Jx35411 : ∀ w ∈ u_ws RJx35411 TJx35411 4, w ∈ zTg := zwin (by decide +kernel)
def zfv_Jx35411 : List Value := [.int 0, .int 0, .int 0, .null]
theorem zfs_Jx35411 : ∀ (E : zen) (ad : zam), zall E ad [0, 0, 0, 5] zfv_Jx35411 := fun _ _ => zall.cons (zn0' (a := 0) (by decide)) (zall.cons (zn0' (a := 0) (by decide)) (zall.cons (zn0' (a := 0) (by decide)) (zall.cons ((zr5 (v := 5) rfl _).mpr rfl) zall.nil)))
theorem zdf_Jx35411 : ∀ j, j < 4 → defaultValue (tyJx35411 j) = vp_V zfv_Jx35411 j := by decide +kernel
theorem zu_J0 : ∀ w ∈ u_ws RJ0 TJ0 2, w ∈ zTg := zwin (by decide +kernel)
theorem zu_J6 : ∀ w ∈ u_ws RJ6 TJ6 1, w ∈ zTg := zwin (by decide +kernel)
set_option maxRecDepth 20000 in
theorem zh_0 : zM 0 = some zmd_0 := rfl
set_option maxRecDepth 20000 in
theorem zh_1 : zM 1 = some zmd_1 := rfl
set_option maxRecDepth 20000 in
theorem zh_10 : zM 10 = some zmd_10 := rfl
set_option maxRecDepth 20000 in
theorem zh_11 : zM 11 = some zmd_11 := rfl
set_option maxRecDepth 20000 in
theorem zh_12 : zM 12 = some zmd_12 := rfl
set_option maxRecDepth 20000 in
theorem zh_13 : zM 13 = some zmd_13 := rfl
set_option maxRecDepth 20000 in
theorem zh_14 : zM 14 = some zmd_14 := rfl
set_option maxRecDepth 20000 in
theorem zh_20 : zM 20 = some zmd_20 := rfl
set_option maxRecDepth 20000 in
theorem zh_22 : zM 22 = some zmd_22 := rfl
set_option maxRecDepth 20000 in
theorem zh_23 : zM 23 = some zmd_23 := rfl
set_option maxRecDepth 20000 in
theorem zh_24 : zM 24 = some zmd_24 := rfl
set_option maxRecDepth 20000 in
theorem zh_25 : zM 25 = some zmd_25 := rfl
set_option maxRecDepth 20000 in
theorem zh_26 : zM 26 = some zmd_26 := rfl
set_option maxRecDepth 20000 in
theorem zh_27 : zM 27 = some zmd_27 := rfl
set_option maxRecDepth 20000 in
theorem zh_28 : zM 28 = some zmd_28 := rfl
set_option maxRecDepth 20000 in
theorem zh_29 : zM 29 = some zmd_29 := rfl
set_option maxRecDepth 20000 in
theorem zh_30 : zM 30 = some zmd_30 := rfl
set_option maxRecDepth 20000 in
theorem zh_31 : zM 31 = some zmd_31 := rfl
set_option maxRecDepth 20000 in
theorem zh_32 : zM 32 = some zmd_32 := rfl
set_option maxRecDepth 20000 in
theorem zh_34 : zM 34 = some zmd_34 := rfl
set_option maxRecDepth 20000 in
theorem zh_35 : zM 35 = some zmd_35 := rfl
set_option maxRecDepth 20000 in
theorem zh_39 : zM 39 = some zmd_39 := rfl
set_option maxRecDepth 20000 in
theorem zh_40 : zM 40 = some zmd_40 := rfl
set_option maxRecDepth 20000 in
theorem zh_43 : zM 43 = some zmd_43 := rfl
set_option maxRecDepth 20000 in
theorem zh_50 : zM 50 = some zmd_50 := rfl
set_option maxRecDepth 20000 in
theorem zh_56 : zM 56 = some zmd_56 := rfl
set_option maxRecDepth 20000 in
theorem zh_58 : zM 58 = some zmd_58 := rfl
set_option maxRecDepth 20000 in
theorem zh_59 : zM 59 = some zmd_59 := rfl
set_option maxRecDepth 20000 in
theorem zh_64 : zM 64 = some zmd_64 := rfl
set_option maxRecDepth 20000 in
theorem zh_69 : zM 69 = some zmd_69 := rfl
set_option maxRecDepth 20000 in
theorem zh_71 : zM 71 = some zmd_71 := rfl
set_option maxRecDepth 20000 in
theorem zh_83 : zM 83 = some zmd_83 := rfl
set_option maxRecDepth 20000 in
theorem zh_85 : zM 85 = some zmd_85 := rfl
set_option maxRecDepth 20000 in
theorem zh_86 : zM 86 = some zmd_86 := rfl
set_option maxRecDepth 20000 in
theorem zh_88 : zM 88 = some zmd_88 := rfl
set_option maxRecDepth 20000 in
theorem zh_93 : zM 93 = some zmd_93 := rfl
set_option maxRecDepth 20000 in
theorem zh_95 : zM 95 = some zmd_95 := rfl
set_option maxRecDepth 20000 in
theorem zh_116 : zM 116 = some zmd_116 := rfl
set_option maxRecDepth 20000 in
theorem zh_119 : zM 119 = some zmd_119 := rfl
set_option maxRecDepth 20000 in
theorem zh_125 : zM 125 = some zmd_125 := rfl
set_option maxRecDepth 20000 in
theorem zh_129 : zM 129 = some zmd_129 := rfl
set_option maxRecDepth 20000 in
theorem zh_131 : zM 131 = some zmd_131 := rfl
set_option maxRecDepth 20000 in
theorem zh_133 : zM 133 = some zmd_133 := rfl
set_option maxRecDepth 20000 in
theorem zh_134 : zM 134 = some zmd_134 := rfl
set_option maxRecDepth 20000 in
theorem zh_137 : zM 137 = some zmd_137 := rfl
set_option maxRecDepth 20000 in
theorem zh_138 : zM 138 = some zmd_138 := rfl
set_option maxRecDepth 20000 in
theorem zh_141 : zM 141 = some zmd_141 := rfl
set_option maxRecDepth 20000 in
theorem zh_142 : zM 142 = some zmd_142 := rfl
set_option maxRecDepth 20000 in
theorem zh_144 : zM 144 = some zmd_144 := rfl
set_option maxRecDepth 20000 in
theorem zh_145 : zM 145 = some zmd_145 := rfl
set_option maxRecDepth 20000 in
theorem zh_147 : zM 147 = some zmd_147 := rfl
set_option maxRecDepth 20000 in
theorem zh_157 : zM 157 = some zmd_157 := rfl
set_option maxRecDepth 20000 in
theorem zh_158 : zM 158 = some zmd_158 := rfl
set_option maxRecDepth 20000 in
theorem zh_161 : zM 161 = some zmd_161 := rfl
set_option maxRecDepth 20000 in
theorem zh_163 : zM 163 = some zmd_163 := rfl
set_option maxRecDepth 20000 in
theorem zh_164 : zM 164 = some zmd_164 := rfl
set_option maxRecDepth 20000 in
theorem zh_168 : zM 168 = some zmd_168 := rfl
set_option maxRecDepth 20000 in
theorem zh_169 : zM 169 = some zmd_169 := rfl
set_option maxRecDepth 20000 in
theorem zh_173 : zM 173 = some zmd_173 := rfl
set_option maxRecDepth 20000 in
theorem zh_181 : zM 181 = some zmd_181 := rfl
set_option maxRecDepth 20000 in
theorem zh_185 : zM 185 = some zmd_185 := rfl
set_option maxRecDepth 20000 in
theorem zh_192 : zM 192 = some zmd_192 := rfl
set_option maxRecDepth 20000 in
theorem zh_193 : zM 193 = some zmd_193 := rfl
set_option maxRecDepth 20000 in
theorem zh_195 : zM 195 = some zmd_195 := rfl
set_option maxRecDepth 20000 in
theorem zh_197 : zM 197 = some zmd_197 := rfl
set_option maxRecDepth 20000 in
theorem zh_199 : zM 199 = some zmd_199 := rfl
set_option maxRecDepth 20000 in
theorem zh_202 : zM 202 = some zmd_202 := rfl
set_option maxRecDepth 20000 in
theorem zh_203 : zM 203 = some zmd_203 := rfl
set_option maxRecDepth 20000 in
theorem zh_205 : zM 205 = some zmd_205 := rfl
set_option maxRecDepth 20000 in
theorem zh_206 : zM 206 = some zmd_206 := rfl
set_option maxRecDepth 20000 in
theorem zh_208 : zM 208 = some zmd_208 := rfl
set_option maxRecDepth 20000 in
theorem zh_209 : zM 209 = some zmd_209 := rfl
set_option maxRecDepth 20000 in
theorem zh_211 : zM 211 = some zmd_211 := rfl
set_option maxRecDepth 20000 in
theorem zh_212 : zM 212 = some zmd_212 := rfl
set_option maxRecDepth 20000 in
theorem zh_214 : zM 214 = some zmd_214 := rfl
set_option maxRecDepth 20000 in
theorem zh_215 : zM 215 = some zmd_215 := rfl
set_option maxRecDepth 20000 in
theorem zh_218 : zM 218 = some zmd_218 := rfl
set_option maxRecDepth 20000 in
theorem zh_221 : zM 221 = some zmd_221 := rfl
set_option maxRecDepth 20000 in
theorem zh_223 : zM 223 = some zmd_223 := rfl
set_option maxRecDepth 20000 in
theorem zh_224 : zM 224 = some zmd_224 := rfl
set_option maxRecDepth 20000 in
theorem zh_226 : zM 226 = some zmd_226 := rfl
set_option maxRecDepth 20000 in
theorem zh_227 : zM 227 = some zmd_227 := rfl
set_option maxRecDepth 20000 in
theorem zh_230 : zM 230 = some zmd_230 := rfl
set_option maxRecDepth 20000 in
theorem zh_232 : zM 232 = some zmd_232 := rfl
set_option maxRecDepth 20000 in
theorem zh_234 : zM 234 = some zmd_234 := rfl
set_option maxRecDepth 20000 in
theorem zh_235 : zM 235 = some zmd_235 := rfl
set_option maxRecDepth 20000 in
theorem zh_237 : zM 237 = some zmd_237 := rfl
set_option maxRecDepth 20000 in
theorem zh_238 : zM 238 = some zmd_238 := rfl
set_option maxRecDepth 20000 in
theorem zh_242 : zM 242 = some zmd_242 := rfl
set_option maxRecDepth 20000 in
theorem zh_244 : zM 244 = some zmd_244 := rfl
set_option maxRecDepth 20000 in
theorem zh_245 : zM 245 = some zmd_245 := rfl
set_option maxRecDepth 20000 in
theorem zh_246 : zM 246 = some zmd_246 := rfl
set_option maxRecDepth 20000 in
theorem zh_248 : zM 248 = some zmd_248 := rfl
set_option maxRecDepth 20000 in
theorem zh_249 : zM 249 = some zmd_249 := rfl
set_option maxRecDepth 20000 in
theorem zh_251 : zM 251 = some zmd_251 := rfl
set_option maxRecDepth 20000 in
theorem zh_252 : zM 252 = some zmd_252 := rfl
set_option maxRecDepth 20000 in
theorem zh_254 : zM 254 = some zmd_254 := rfl
set_option maxRecDepth 20000 in
theorem zh_255 : zM 255 = some zmd_255 := rfl
set_option maxRecDepth 20000 in
theorem zh_256 : zM 256 = some zmd_256 := rfl
set_option maxRecDepth 20000 in
theorem zh_257 : zM 257 = some zmd_257 := rfl
set_option maxRecDepth 20000 in
theorem zh_259 : zM 259 = some zmd_259 := rfl
set_option maxRecDepth 20000 in
theorem zh_263 : zM 263 = some zmd_263 := rfl
set_option maxRecDepth 20000 in
theorem zh_265 : zM 265 = some zmd_265 := rfl
theorem zokE {m pc : Nat} {f g : zS} (h : f = g) (r : zOK zPre m pc g) : zOK zPre m pc f := by rw [h]; exact r
end Words
