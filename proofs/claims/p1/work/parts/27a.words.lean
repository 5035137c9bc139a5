section Words
theorem ztb {w : Cond} (h : w ∈ tables_1) : w ∈ lw_tbl := List.mem_append_right _ h
theorem ztc {w : Cond} (h : w ∈ tables_1) : w ∈ zXs ++ lw_tbl := List.mem_append_right _ (ztb h)
theorem zt_1 {w : Cond} {i : Nat} (h0 : tables_1_1[i]? = some w) (g : goodWord w = true) : w ∈ zTg := by
  have h := List.mem_of_getElem? h0
  exact List.mem_filter.mpr ⟨ztc (List.mem_append_left _ h), g⟩
theorem zn_1 {w : Cond} {i : Nat} (h0 : tables_1_1[i]? = some w) (g : zNw w = true) : w ∈ zTn := by
  have h := List.mem_of_getElem? h0
  exact List.mem_filter.mpr ⟨ztb (List.mem_append_left _ h), g⟩
theorem zt_2 {w : Cond} {i : Nat} (h0 : tables_1_2[i]? = some w) (g : goodWord w = true) : w ∈ zTg := by
  have h := List.mem_of_getElem? h0
  exact List.mem_filter.mpr ⟨ztc (List.mem_append_right _ (List.mem_append_left _ h)), g⟩
theorem zn_2 {w : Cond} {i : Nat} (h0 : tables_1_2[i]? = some w) (g : zNw w = true) : w ∈ zTn := by
  have h := List.mem_of_getElem? h0
  exact List.mem_filter.mpr ⟨ztb (List.mem_append_right _ (List.mem_append_left _ h)), g⟩
theorem zt_3 {w : Cond} {i : Nat} (h0 : tables_1_3[i]? = some w) (g : goodWord w = true) : w ∈ zTg := by
  have h := List.mem_of_getElem? h0
  exact List.mem_filter.mpr ⟨ztc (List.mem_append_right _ (List.mem_append_right _ (List.mem_append_left _ h))), g⟩
theorem zn_3 {w : Cond} {i : Nat} (h0 : tables_1_3[i]? = some w) (g : zNw w = true) : w ∈ zTn := by
  have h := List.mem_of_getElem? h0
  exact List.mem_filter.mpr ⟨ztb (List.mem_append_right _ (List.mem_append_right _ (List.mem_append_left _ h))), g⟩
theorem zt_4 {w : Cond} {i : Nat} (h0 : tables_1_4[i]? = some w) (g : goodWord w = true) : w ∈ zTg := by
  have h := List.mem_of_getElem? h0
  exact List.mem_filter.mpr ⟨ztc (List.mem_append_right _ (List.mem_append_right _ (List.mem_append_right _ (List.mem_append_left _ h)))), g⟩
theorem zn_4 {w : Cond} {i : Nat} (h0 : tables_1_4[i]? = some w) (g : zNw w = true) : w ∈ zTn := by
  have h := List.mem_of_getElem? h0
  exact List.mem_filter.mpr ⟨ztb (List.mem_append_right _ (List.mem_append_right _ (List.mem_append_right _ (List.mem_append_left _ h)))), g⟩
theorem zt_5 {w : Cond} {i : Nat} (h0 : tables_1_5[i]? = some w) (g : goodWord w = true) : w ∈ zTg := by
  have h := List.mem_of_getElem? h0
  exact List.mem_filter.mpr ⟨ztc (List.mem_append_right _ (List.mem_append_right _ (List.mem_append_right _ (List.mem_append_right _ (List.mem_append_left _ h))))), g⟩
theorem zn_5 {w : Cond} {i : Nat} (h0 : tables_1_5[i]? = some w) (g : zNw w = true) : w ∈ zTn := by
  have h := List.mem_of_getElem? h0
  exact List.mem_filter.mpr ⟨ztb (List.mem_append_right _ (List.mem_append_right _ (List.mem_append_right _ (List.mem_append_right _ (List.mem_append_left _ h))))), g⟩
theorem zt_6 {w : Cond} {i : Nat} (h0 : tables_1_6[i]? = some w) (g : goodWord w = true) : w ∈ zTg := by
  have h := List.mem_of_getElem? h0
  exact List.mem_filter.mpr ⟨ztc (List.mem_append_right _ (List.mem_append_right _ (List.mem_append_right _ (List.mem_append_right _ (List.mem_append_right _ (List.mem_append_left _ h)))))), g⟩
theorem zn_6 {w : Cond} {i : Nat} (h0 : tables_1_6[i]? = some w) (g : zNw w = true) : w ∈ zTn := by
  have h := List.mem_of_getElem? h0
  exact List.mem_filter.mpr ⟨ztb (List.mem_append_right _ (List.mem_append_right _ (List.mem_append_right _ (List.mem_append_right _ (List.mem_append_right _ (List.mem_append_left _ h)))))), g⟩
theorem zt_7 {w : Cond} {i : Nat} (h0 : tables_1_7[i]? = some w) (g : goodWord w = true) : w ∈ zTg := by
  have h := List.mem_of_getElem? h0
  exact List.mem_filter.mpr ⟨ztc (List.mem_append_right _ (List.mem_append_right _ (List.mem_append_right _ (List.mem_append_right _ (List.mem_append_right _ (List.mem_append_right _ (List.mem_append_left _ h))))))), g⟩
theorem zn_7 {w : Cond} {i : Nat} (h0 : tables_1_7[i]? = some w) (g : zNw w = true) : w ∈ zTn := by
  have h := List.mem_of_getElem? h0
  exact List.mem_filter.mpr ⟨ztb (List.mem_append_right _ (List.mem_append_right _ (List.mem_append_right _ (List.mem_append_right _ (List.mem_append_right _ (List.mem_append_right _ (List.mem_append_left _ h))))))), g⟩
theorem zt_8 {w : Cond} {i : Nat} (h0 : tables_1_8[i]? = some w) (g : goodWord w = true) : w ∈ zTg := by
  have h := List.mem_of_getElem? h0
  exact List.mem_filter.mpr ⟨ztc (List.mem_append_right _ (List.mem_append_right _ (List.mem_append_right _ (List.mem_append_right _ (List.mem_append_right _ (List.mem_append_right _ (List.mem_append_right _ (List.mem_append_left _ h)))))))), g⟩
theorem zn_8 {w : Cond} {i : Nat} (h0 : tables_1_8[i]? = some w) (g : zNw w = true) : w ∈ zTn := by
  have h := List.mem_of_getElem? h0
  exact List.mem_filter.mpr ⟨ztb (List.mem_append_right _ (List.mem_append_right _ (List.mem_append_right _ (List.mem_append_right _ (List.mem_append_right _ (List.mem_append_right _ (List.mem_append_right _ (List.mem_append_left _ h)))))))), g⟩
theorem zt_9 {w : Cond} {i : Nat} (h0 : tables_1_9[i]? = some w) (g : goodWord w = true) : w ∈ zTg := by
  have h := List.mem_of_getElem? h0
  exact List.mem_filter.mpr ⟨ztc (List.mem_append_right _ (List.mem_append_right _ (List.mem_append_right _ (List.mem_append_right _ (List.mem_append_right _ (List.mem_append_right _ (List.mem_append_right _ (List.mem_append_right _ (List.mem_append_left _ h))))))))), g⟩
theorem zn_9 {w : Cond} {i : Nat} (h0 : tables_1_9[i]? = some w) (g : zNw w = true) : w ∈ zTn := by
  have h := List.mem_of_getElem? h0
  exact List.mem_filter.mpr ⟨ztb (List.mem_append_right _ (List.mem_append_right _ (List.mem_append_right _ (List.mem_append_right _ (List.mem_append_right _ (List.mem_append_right _ (List.mem_append_right _ (List.mem_append_right _ (List.mem_append_left _ h))))))))), g⟩
theorem zt_10 {w : Cond} {i : Nat} (h0 : tables_1_10[i]? = some w) (g : goodWord w = true) : w ∈ zTg := by
  have h := List.mem_of_getElem? h0
  exact List.mem_filter.mpr ⟨ztc (List.mem_append_right _ (List.mem_append_right _ (List.mem_append_right _ (List.mem_append_right _ (List.mem_append_right _ (List.mem_append_right _ (List.mem_append_right _ (List.mem_append_right _ (List.mem_append_right _ (List.mem_append_left _ h)))))))))), g⟩
theorem zn_10 {w : Cond} {i : Nat} (h0 : tables_1_10[i]? = some w) (g : zNw w = true) : w ∈ zTn := by
  have h := List.mem_of_getElem? h0
  exact List.mem_filter.mpr ⟨ztb (List.mem_append_right _ (List.mem_append_right _ (List.mem_append_right _ (List.mem_append_right _ (List.mem_append_right _ (List.mem_append_right _ (List.mem_append_right _ (List.mem_append_right _ (List.mem_append_right _ (List.mem_append_left _ h)))))))))), g⟩
theorem zt_11 {w : Cond} {i : Nat} (h0 : tables_1_11[i]? = some w) (g : goodWord w = true) : w ∈ zTg := by
  have h := List.mem_of_getElem? h0
  exact List.mem_filter.mpr ⟨ztc (List.mem_append_right _ (List.mem_append_right _ (List.mem_append_right _ (List.mem_append_right _ (List.mem_append_right _ (List.mem_append_right _ (List.mem_append_right _ (List.mem_append_right _ (List.mem_append_right _ (List.mem_append_right _ (h))))))))))), g⟩
theorem zn_11 {w : Cond} {i : Nat} (h0 : tables_1_11[i]? = some w) (g : zNw w = true) : w ∈ zTn := by
  have h := List.mem_of_getElem? h0
  exact List.mem_filter.mpr ⟨ztb (List.mem_append_right _ (List.mem_append_right _ (List.mem_append_right _ (List.mem_append_right _ (List.mem_append_right _ (List.mem_append_right _ (List.mem_append_right _ (List.mem_append_right _ (List.mem_append_right _ (List.mem_append_right _ (h))))))))))), g⟩
theorem zsel {i : Nat} {q : MethodName × Nat} (h : lw_privs[i]? = some q) : Cond.selects q.1.cls q.1 q.1 ∈ zTg := List.mem_filter.mpr ⟨List.mem_append_right _ (List.mem_append_left _ (List.mem_map.mpr ⟨q, List.mem_of_getElem? h, rfl⟩)), rfl⟩
theorem zwin {l : List Cond} (h : (l.all fun w => decide (w ∈ tables_1) && goodWord w) = true) : ∀ w ∈ l, w ∈ zTg := fun w hw => by
  have h1 := List.all_eq_true.mp h w hw
  rw [Bool.and_eq_true, decide_eq_true_eq] at h1
  exact List.mem_filter.mpr ⟨ztc h1.1, h1.2⟩
theorem zThi {l : List Cond} (h : (l.all fun w => decide (w ∈ tables_1) && (goodWord w || zNw w)) = true) : ∀ w ∈ l, w ∈ zTg ∨ w ∈ zTn := fun w hw => by
  have h1 := List.all_eq_true.mp h w hw
  rw [Bool.and_eq_true, decide_eq_true_eq, Bool.or_eq_true] at h1
  exact h1.2.elim (fun g => Or.inl (List.mem_filter.mpr ⟨ztc h1.1, g⟩)) (fun g => Or.inr (List.mem_filter.mpr ⟨ztb h1.1, g⟩))
theorem zws_x : Cond.selects "java/lang/StringBuilder" ⟨"java/lang/AbstractStringBuilder", "ensureCapacityInternal", "(I)V"⟩ ⟨"java/lang/AbstractStringBuilder", "ensureCapacityInternal", "(I)V"⟩ ∈ zTg := List.mem_filter.mpr ⟨List.mem_append_left _ List.mem_cons_self, rfl⟩
theorem zws_1 : Cond.selects "Residueworks" ⟨"Residueworks", "numberOf", "(I)LResidueworks$Whole;"⟩ ⟨"Residueworks", "numberOf", "(I)LResidueworks$Whole;"⟩ ∈ zTg := zsel (i := 1) (q := (⟨"Residueworks", "numberOf", "(I)LResidueworks$Whole;"⟩, 10)) (by decide +kernel)
theorem zw_1_0 : (Jvm.Cond.initialized "ResidueworksLaw") ∈ zTg := zt_1 (i := 0) rfl rfl
theorem zw_1_1 : (Jvm.Cond.initialized "Residueworks") ∈ zTg := zt_1 (i := 1) rfl rfl
theorem zw_1_2 : (Jvm.Cond.initialized "Residueworks$Text") ∈ zTg := zt_1 (i := 2) rfl rfl
theorem zw_1_3 : (Jvm.Cond.initialized "Residueworks$Whole") ∈ zTg := zt_1 (i := 3) rfl rfl
theorem zw_1_4 : (Jvm.Cond.initialized "Residueworks$Row") ∈ zTg := zt_1 (i := 4) rfl rfl
theorem zw_1_5 : (Jvm.Cond.initialized "Residueworks$Division") ∈ zTg := zt_1 (i := 5) rfl rfl
theorem zw_1_6 : (Jvm.Cond.initialized "Residueworks$Residues") ∈ zTg := zt_1 (i := 6) rfl rfl
theorem zw_1_7 : (Jvm.Cond.initialized "Residueworks$Roots") ∈ zTg := zt_1 (i := 7) rfl rfl
theorem zw_1_8 : (Jvm.Cond.initialized "Residueworks$Conditions") ∈ zTg := zt_1 (i := 8) rfl rfl
theorem zw_1_9 : (Jvm.Cond.initialized "Residueworks$Theorem") ∈ zTg := zt_1 (i := 9) rfl rfl
theorem zw_1_10 : (Jvm.Cond.initialized "ResidueworksModel") ∈ zTg := zt_1 (i := 10) rfl rfl
theorem zw_1_11 : (Jvm.Cond.initialized "java/lang/AbstractStringBuilder") ∈ zTg := zt_1 (i := 11) rfl rfl
theorem zw_1_12 : (Jvm.Cond.initialized "java/lang/StringBuilder") ∈ zTg := zt_1 (i := 12) rfl rfl
theorem zw_1_13 : (Jvm.Cond.initialized "java/lang/String") ∈ zTg := zt_1 (i := 13) rfl rfl
theorem zw_1_15 : (Jvm.Cond.initialized "java/util/AbstractCollection") ∈ zTg := zt_1 (i := 15) rfl rfl
theorem zw_1_16 : (Jvm.Cond.initialized "java/util/AbstractList") ∈ zTg := zt_1 (i := 16) rfl rfl
theorem zw_1_17 : (Jvm.Cond.initialized "java/util/ArrayList") ∈ zTg := zt_1 (i := 17) rfl rfl
theorem zw_1_18 : (Jvm.Cond.initialized "java/lang/Math") ∈ zTg := zt_1 (i := 18) rfl rfl
theorem zw_1_19 : (Jvm.Cond.initialized "ResidueworksModel$Whole") ∈ zTg := zt_1 (i := 19) rfl rfl
theorem zw_1_20 : (Jvm.Cond.initialized "java/lang/System") ∈ zTg := zt_1 (i := 20) rfl rfl
theorem zw_1_24 : (Jvm.Cond.initialized "java/lang/IndexOutOfBoundsException") ∈ zTg := zt_1 (i := 24) rfl rfl
theorem zw_1_27 : (Jvm.Cond.initialized "java/lang/Integer") ∈ zTg := zt_1 (i := 27) rfl rfl
theorem zw_1_29 : (Jvm.Cond.initialized "java/lang/IllegalArgumentException") ∈ zTg := zt_1 (i := 29) rfl rfl
theorem zw_1_30 : (Jvm.Cond.initialized "java/lang/StringLatin1") ∈ zTg := zt_1 (i := 30) rfl rfl
theorem zw_1_31 : (Jvm.Cond.initialized "jdk/internal/util/Preconditions") ∈ zTg := zt_1 (i := 31) rfl rfl
theorem zw_1_33 : (Jvm.Cond.initialized "java/lang/ArithmeticException") ∈ zTg := zt_1 (i := 33) rfl rfl
theorem zw_1_34 : (Jvm.Cond.initialized "java/util/Arrays") ∈ zTg := zt_1 (i := 34) rfl rfl
theorem zw_1_39 : (Jvm.Cond.initialized "Residueworks$Small") ∈ zTg := zt_1 (i := 39) rfl rfl
theorem zw_1_41 : (Jvm.Cond.initialized "java/util/ArrayList$Itr") ∈ zTg := zt_1 (i := 41) rfl rfl
theorem zw_1_42 : (Jvm.Cond.classLink "ResidueworksLaw" (8 : Nat) "Residueworks") ∈ zTg := zt_1 (i := 42) rfl rfl
theorem zw_1_43 : (Jvm.Cond.instantiable "Residueworks" (10 : Nat)) ∈ zTg := zt_1 (i := 43) rfl rfl
theorem zw_1_44 : (Jvm.Cond.methodLink "ResidueworksLaw" (143 : Nat) ({ cls := "Residueworks", name := "<init>", desc := "()V" } : Jvm.MethodName)) ∈ zTg := zt_1 (i := 44) rfl rfl
theorem zw_1_45 : (Jvm.Cond.instanceMethod ({ cls := "Residueworks", name := "<init>", desc := "()V" } : Jvm.MethodName)) ∈ zTg := zt_1 (i := 45) rfl rfl
theorem zw_1_46 : (Jvm.Cond.code ({ cls := "Residueworks", name := "<init>", desc := "()V" } : Jvm.MethodName) prog_1_method_1_code (2 : Nat) (Option.none : Option Jvm.ClassFile.FieldType)) ∈ zTg := zt_1 (i := 46) rfl rfl
theorem zw_1_47 : (Jvm.Cond.methodLink "Residueworks" (1 : Nat) ({ cls := "java/lang/Object", name := "<init>", desc := "()V" } : Jvm.MethodName)) ∈ zTg := zt_1 (i := 47) rfl rfl
theorem zw_1_48 : (Jvm.Cond.instanceMethod ({ cls := "java/lang/Object", name := "<init>", desc := "()V" } : Jvm.MethodName)) ∈ zTg := zt_1 (i := 48) rfl rfl
theorem zw_1_49 : (Jvm.Cond.code ({ cls := "java/lang/Object", name := "<init>", desc := "()V" } : Jvm.MethodName) object_method_1_code (1 : Nat) (Option.none : Option Jvm.ClassFile.FieldType)) ∈ zTg := zt_1 (i := 49) rfl rfl
theorem zw_1_50 : (Jvm.Cond.classLink "Residueworks" (9 : Nat) "Residueworks$Whole") ∈ zTg := zt_1 (i := 50) rfl rfl
theorem zw_1_51 : (Jvm.Cond.arrayOver (Jvm.ClassFile.FieldType.object "Residueworks$Whole")) ∈ zTn := zn_1 (i := 51) rfl rfl
theorem zw_1_52 : (Jvm.Cond.classLink "Residueworks" (15 : Nat) "Residueworks$Text") ∈ zTg := zt_1 (i := 52) rfl rfl
theorem zw_1_53 : (Jvm.Cond.instantiable "Residueworks$Text" (3 : Nat)) ∈ zTg := zt_1 (i := 53) rfl rfl
theorem zw_1_54 : (Jvm.Cond.methodLinkNest "Residueworks" (17 : Nat) ({ cls := "Residueworks$Text", name := "<init>", desc := "()V" } : Jvm.MethodName) "Residueworks") ∈ zTn := zn_1 (i := 54) rfl rfl
theorem zw_1_55 : (Jvm.Cond.instanceMethod ({ cls := "Residueworks$Text", name := "<init>", desc := "()V" } : Jvm.MethodName)) ∈ zTg := zt_1 (i := 55) rfl rfl
theorem zw_1_56 : (Jvm.Cond.code ({ cls := "Residueworks$Text", name := "<init>", desc := "()V" } : Jvm.MethodName) prog_8_method_1_code (1 : Nat) (Option.none : Option Jvm.ClassFile.FieldType)) ∈ zTg := zt_1 (i := 56) rfl rfl
theorem zw_1_57 : (Jvm.Cond.methodLink "Residueworks$Text" (1 : Nat) ({ cls := "java/lang/Object", name := "<init>", desc := "()V" } : Jvm.MethodName)) ∈ zTg := zt_1 (i := 57) rfl rfl
theorem zw_1_58 : (Jvm.Cond.classLink "Residueworks$Text" (13 : Nat) "Residueworks$Whole") ∈ zTg := zt_1 (i := 58) rfl rfl
theorem zw_1_59 : (Jvm.Cond.instantiable "Residueworks$Whole" (3 : Nat)) ∈ zTg := zt_1 (i := 59) rfl rfl
theorem zw_1_60 : (Jvm.Cond.methodLinkNest "Residueworks$Text" (15 : Nat) ({ cls := "Residueworks$Whole", name := "<init>", desc := "()V" } : Jvm.MethodName) "Residueworks") ∈ zTn := zn_1 (i := 60) rfl rfl
theorem zw_1_61 : (Jvm.Cond.instanceMethod ({ cls := "Residueworks$Whole", name := "<init>", desc := "()V" } : Jvm.MethodName)) ∈ zTg := zt_1 (i := 61) rfl rfl
theorem zw_1_62 : (Jvm.Cond.code ({ cls := "Residueworks$Whole", name := "<init>", desc := "()V" } : Jvm.MethodName) prog_10_method_1_code (1 : Nat) (Option.none : Option Jvm.ClassFile.FieldType)) ∈ zTg := zt_1 (i := 62) rfl rfl
theorem zw_1_63 : (Jvm.Cond.methodLink "Residueworks$Whole" (3 : Nat) ({ cls := "java/lang/Object", name := "<init>", desc := "()V" } : Jvm.MethodName)) ∈ zTg := zt_1 (i := 63) rfl rfl
theorem zw_1_64 : (Jvm.Cond.fieldLink "Residueworks$Whole" (9 : Nat) "Residueworks$Whole" "limbs" "[I") ∈ zTg := zt_1 (i := 64) rfl rfl
theorem zw_1_65 : (Jvm.Cond.fieldLink "Residueworks$Division" (81 : Nat) "Residueworks$Whole" "limbs" "[I") ∈ zTg := zt_1 (i := 65) rfl rfl
theorem zw_1_66 : (Jvm.Cond.fieldLink "Residueworks$Whole" (13 : Nat) "Residueworks$Whole" "size" "I") ∈ zTg := zt_1 (i := 66) rfl rfl
theorem zw_1_67 : (Jvm.Cond.fieldLink "Residueworks$Division" (26 : Nat) "Residueworks$Whole" "size" "I") ∈ zTg := zt_1 (i := 67) rfl rfl
theorem zw_1_68 : (Jvm.Cond.fieldLink "Residueworks$Division" (22 : Nat) "Residueworks$Whole" "sign" "I") ∈ zTg := zt_1 (i := 68) rfl rfl
theorem zw_1_69 : (Jvm.Cond.fieldLink "Residueworks$Whole" (17 : Nat) "Residueworks$Whole" "sign" "I") ∈ zTg := zt_1 (i := 69) rfl rfl
theorem zw_1_70 : (Jvm.Cond.fieldLink "Residueworks$Residues" (82 : Nat) "Residueworks$Whole" "sign" "I") ∈ zTg := zt_1 (i := 70) rfl rfl
theorem zw_1_72 : (Jvm.Cond.fieldLink "Residueworks$Text" (28 : Nat) "Residueworks$Whole" "sign" "I") ∈ zTg := zt_1 (i := 72) rfl rfl
theorem zw_1_73 : (Jvm.Cond.fieldLink "Residueworks$Theorem" (164 : Nat) "Residueworks$Whole" "sign" "I") ∈ zTg := zt_1 (i := 73) rfl rfl
theorem zw_1_74 : (Jvm.Cond.fieldLink "Residueworks" (111 : Nat) "Residueworks$Whole" "sign" "I") ∈ zTg := zt_1 (i := 74) rfl rfl
theorem zw_1_75 : (Jvm.Cond.laysFinal "Residueworks$Whole" "Residueworks$Whole" "limbs" "[I") ∈ zTg := zt_1 (i := 75) rfl rfl
theorem zw_1_77 : (Jvm.Cond.lays "Residueworks$Whole" "Residueworks$Whole" "size" "I") ∈ zTg := zt_1 (i := 77) rfl rfl
theorem zw_1_79 : (Jvm.Cond.lays "Residueworks$Whole" "Residueworks$Whole" "sign" "I") ∈ zTg := zt_1 (i := 79) rfl rfl
theorem zw_1_82 : (Jvm.Cond.arrayClass Jvm.ClassFile.FieldType.char) ∈ zTg := zt_1 (i := 82) rfl rfl
theorem zw_1_83 : (Jvm.Cond.arrayClass Jvm.ClassFile.FieldType.int) ∈ zTg := zt_1 (i := 83) rfl rfl
theorem zw_1_84 : (Jvm.Cond.fieldLink "Residueworks$Text" (9 : Nat) "Residueworks$Text" "signs" "[C") ∈ zTg := zt_1 (i := 84) rfl rfl
theorem zw_1_85 : (Jvm.Cond.fieldLink "Residueworks$Text" (16 : Nat) "Residueworks$Text" "left" "LResidueworks$Whole;") ∈ zTg := zt_1 (i := 85) rfl rfl
theorem zw_1_86 : (Jvm.Cond.fieldLink "Residueworks$Text" (20 : Nat) "Residueworks$Text" "count" "I") ∈ zTg := zt_1 (i := 86) rfl rfl
theorem zw_1_87 : (Jvm.Cond.fieldLink "Residueworks" (198 : Nat) "Residueworks$Text" "count" "I") ∈ zTg := zt_1 (i := 87) rfl rfl
theorem zw_1_88 : (Jvm.Cond.laysFinal "Residueworks$Text" "Residueworks$Text" "signs" "[C") ∈ zTg := zt_1 (i := 88) rfl rfl
theorem zw_1_90 : (Jvm.Cond.laysFinal "Residueworks$Text" "Residueworks$Text" "left" "LResidueworks$Whole;") ∈ zTg := zt_1 (i := 90) rfl rfl
theorem zw_1_92 : (Jvm.Cond.lays "Residueworks$Text" "Residueworks$Text" "count" "I") ∈ zTg := zt_1 (i := 92) rfl rfl
theorem zw_1_95 : (Jvm.Cond.classLink "Residueworks" (22 : Nat) "Residueworks$Row") ∈ zTg := zt_1 (i := 95) rfl rfl
theorem zw_1_96 : (Jvm.Cond.instantiable "Residueworks$Row" (3 : Nat)) ∈ zTg := zt_1 (i := 96) rfl rfl
theorem zw_1_97 : (Jvm.Cond.methodLinkNest "Residueworks" (24 : Nat) ({ cls := "Residueworks$Row", name := "<init>", desc := "()V" } : Jvm.MethodName) "Residueworks") ∈ zTn := zn_1 (i := 97) rfl rfl
theorem zw_1_98 : (Jvm.Cond.instanceMethod ({ cls := "Residueworks$Row", name := "<init>", desc := "()V" } : Jvm.MethodName)) ∈ zTg := zt_1 (i := 98) rfl rfl
theorem zw_1_99 : (Jvm.Cond.code ({ cls := "Residueworks$Row", name := "<init>", desc := "()V" } : Jvm.MethodName) prog_6_method_1_code (1 : Nat) (Option.none : Option Jvm.ClassFile.FieldType)) ∈ zTg := zt_1 (i := 99) rfl rfl
theorem zw_1_100 : (Jvm.Cond.methodLink "Residueworks$Row" (1 : Nat) ({ cls := "java/lang/Object", name := "<init>", desc := "()V" } : Jvm.MethodName)) ∈ zTg := zt_1 (i := 100) rfl rfl
theorem zw_1_101 : (Jvm.Cond.classLink "Residueworks$Row" (13 : Nat) "Residueworks$Whole") ∈ zTg := zt_1 (i := 101) rfl rfl
theorem zw_1_102 : (Jvm.Cond.methodLinkNest "Residueworks$Row" (15 : Nat) ({ cls := "Residueworks$Whole", name := "<init>", desc := "()V" } : Jvm.MethodName) "Residueworks") ∈ zTn := zn_1 (i := 102) rfl rfl
theorem zw_1_103 : (Jvm.Cond.fieldLink "Residueworks$Row" (9 : Nat) "Residueworks$Row" "bytes" "[B") ∈ zTg := zt_1 (i := 103) rfl rfl
theorem zw_1_104 : (Jvm.Cond.fieldLink "Residueworks$Row" (16 : Nat) "Residueworks$Row" "round" "LResidueworks$Whole;") ∈ zTg := zt_1 (i := 104) rfl rfl
theorem zw_1_105 : (Jvm.Cond.fieldLink "Residueworks$Row" (20 : Nat) "Residueworks$Row" "count" "I") ∈ zTg := zt_1 (i := 105) rfl rfl
theorem zw_1_106 : (Jvm.Cond.fieldLink "Residueworks" (231 : Nat) "Residueworks$Row" "count" "I") ∈ zTg := zt_1 (i := 106) rfl rfl
theorem zw_1_107 : (Jvm.Cond.laysFinal "Residueworks$Row" "Residueworks$Row" "bytes" "[B") ∈ zTg := zt_1 (i := 107) rfl rfl
theorem zw_1_109 : (Jvm.Cond.laysFinal "Residueworks$Row" "Residueworks$Row" "round" "LResidueworks$Whole;") ∈ zTg := zt_1 (i := 109) rfl rfl
theorem zw_1_111 : (Jvm.Cond.lays "Residueworks$Row" "Residueworks$Row" "count" "I") ∈ zTg := zt_1 (i := 111) rfl rfl
theorem zw_1_114 : (Jvm.Cond.arrayClass Jvm.ClassFile.FieldType.byte) ∈ zTg := zt_1 (i := 114) rfl rfl
theorem zw_1_115 : (Jvm.Cond.classLink "Residueworks" (29 : Nat) "Residueworks$Division") ∈ zTg := zt_1 (i := 115) rfl rfl
theorem zw_1_116 : (Jvm.Cond.instantiable "Residueworks$Division" (3 : Nat)) ∈ zTg := zt_1 (i := 116) rfl rfl
theorem zw_1_117 : (Jvm.Cond.methodLinkNest "Residueworks" (31 : Nat) ({ cls := "Residueworks$Division", name := "<init>", desc := "()V" } : Jvm.MethodName) "Residueworks") ∈ zTn := zn_1 (i := 117) rfl rfl
theorem zw_1_118 : (Jvm.Cond.instanceMethod ({ cls := "Residueworks$Division", name := "<init>", desc := "()V" } : Jvm.MethodName)) ∈ zTg := zt_1 (i := 118) rfl rfl
theorem zw_1_119 : (Jvm.Cond.code ({ cls := "Residueworks$Division", name := "<init>", desc := "()V" } : Jvm.MethodName) prog_3_method_1_code (1 : Nat) (Option.none : Option Jvm.ClassFile.FieldType)) ∈ zTg := zt_1 (i := 119) rfl rfl
theorem zw_1_120 : (Jvm.Cond.methodLink "Residueworks$Division" (1 : Nat) ({ cls := "java/lang/Object", name := "<init>", desc := "()V" } : Jvm.MethodName)) ∈ zTg := zt_1 (i := 120) rfl rfl
theorem zw_1_121 : (Jvm.Cond.classLink "Residueworks$Division" (7 : Nat) "Residueworks$Whole") ∈ zTg := zt_1 (i := 121) rfl rfl
theorem zw_1_122 : (Jvm.Cond.methodLinkNest "Residueworks$Division" (9 : Nat) ({ cls := "Residueworks$Whole", name := "<init>", desc := "()V" } : Jvm.MethodName) "Residueworks") ∈ zTn := zn_1 (i := 122) rfl rfl
theorem zw_1_123 : (Jvm.Cond.fieldLink "Residueworks$Division" (10 : Nat) "Residueworks$Division" "quotient" "LResidueworks$Whole;") ∈ zTg := zt_1 (i := 123) rfl rfl
theorem zw_1_125 : (Jvm.Cond.fieldLink "Residueworks$Theorem" (150 : Nat) "Residueworks$Division" "quotient" "LResidueworks$Whole;") ∈ zTg := zt_1 (i := 125) rfl rfl
theorem zw_1_128 : (Jvm.Cond.fieldLink "Residueworks$Division" (16 : Nat) "Residueworks$Division" "rest" "LResidueworks$Whole;") ∈ zTg := zt_1 (i := 128) rfl rfl
theorem zw_1_129 : (Jvm.Cond.fieldLink "Residueworks$Residues" (54 : Nat) "Residueworks$Division" "rest" "LResidueworks$Whole;") ∈ zTg := zt_1 (i := 129) rfl rfl
theorem zw_1_131 : (Jvm.Cond.fieldLink "Residueworks$Theorem" (141 : Nat) "Residueworks$Division" "rest" "LResidueworks$Whole;") ∈ zTg := zt_1 (i := 131) rfl rfl
theorem zw_1_133 : (Jvm.Cond.fieldLink "Residueworks$Division" (19 : Nat) "Residueworks$Division" "divisor" "LResidueworks$Whole;") ∈ zTg := zt_1 (i := 133) rfl rfl
theorem zw_1_134 : (Jvm.Cond.laysFinal "Residueworks$Division" "Residueworks$Division" "quotient" "LResidueworks$Whole;") ∈ zTg := zt_1 (i := 134) rfl rfl
theorem zw_1_136 : (Jvm.Cond.laysFinal "Residueworks$Division" "Residueworks$Division" "rest" "LResidueworks$Whole;") ∈ zTg := zt_1 (i := 136) rfl rfl
theorem zw_1_138 : (Jvm.Cond.laysFinal "Residueworks$Division" "Residueworks$Division" "divisor" "LResidueworks$Whole;") ∈ zTg := zt_1 (i := 138) rfl rfl
theorem zw_1_141 : (Jvm.Cond.classLink "Residueworks" (36 : Nat) "Residueworks$Residues") ∈ zTg := zt_1 (i := 141) rfl rfl
theorem zw_1_142 : (Jvm.Cond.instantiable "Residueworks$Residues" (11 : Nat)) ∈ zTg := zt_1 (i := 142) rfl rfl
theorem zw_1_143 : (Jvm.Cond.methodLinkNest "Residueworks" (38 : Nat) ({ cls := "Residueworks$Residues", name := "<init>", desc := "()V" } : Jvm.MethodName) "Residueworks") ∈ zTn := zn_1 (i := 143) rfl rfl
theorem zw_1_144 : (Jvm.Cond.instanceMethod ({ cls := "Residueworks$Residues", name := "<init>", desc := "()V" } : Jvm.MethodName)) ∈ zTg := zt_1 (i := 144) rfl rfl
theorem zw_1_145 : (Jvm.Cond.code ({ cls := "Residueworks$Residues", name := "<init>", desc := "()V" } : Jvm.MethodName) prog_4_method_1_code (1 : Nat) (Option.none : Option Jvm.ClassFile.FieldType)) ∈ zTg := zt_1 (i := 145) rfl rfl
theorem zw_1_146 : (Jvm.Cond.methodLink "Residueworks$Residues" (1 : Nat) ({ cls := "java/lang/Object", name := "<init>", desc := "()V" } : Jvm.MethodName)) ∈ zTg := zt_1 (i := 146) rfl rfl
theorem zw_1_147 : (Jvm.Cond.classLink "Residueworks$Residues" (7 : Nat) "Residueworks$Whole") ∈ zTg := zt_1 (i := 147) rfl rfl
theorem zw_1_148 : (Jvm.Cond.methodLinkNest "Residueworks$Residues" (9 : Nat) ({ cls := "Residueworks$Whole", name := "<init>", desc := "()V" } : Jvm.MethodName) "Residueworks") ∈ zTn := zn_1 (i := 148) rfl rfl
theorem zw_1_149 : (Jvm.Cond.classLink "Residueworks$Residues" (25 : Nat) "Residueworks$Division") ∈ zTg := zt_1 (i := 149) rfl rfl
theorem zw_1_150 : (Jvm.Cond.methodLinkNest "Residueworks$Residues" (27 : Nat) ({ cls := "Residueworks$Division", name := "<init>", desc := "()V" } : Jvm.MethodName) "Residueworks") ∈ zTn := zn_1 (i := 150) rfl rfl
theorem zw_1_151 : (Jvm.Cond.fieldLink "Residueworks$Residues" (10 : Nat) "Residueworks$Residues" "raised" "LResidueworks$Whole;") ∈ zTg := zt_1 (i := 151) rfl rfl
theorem zw_1_154 : (Jvm.Cond.fieldLink "Residueworks$Residues" (16 : Nat) "Residueworks$Residues" "inverse" "LResidueworks$Whole;") ∈ zTg := zt_1 (i := 154) rfl rfl
theorem zw_1_158 : (Jvm.Cond.fieldLink "Residueworks$Residues" (19 : Nat) "Residueworks$Residues" "divisor" "LResidueworks$Whole;") ∈ zTg := zt_1 (i := 158) rfl rfl
theorem zw_1_160 : (Jvm.Cond.fieldLink "Residueworks$Theorem" (209 : Nat) "Residueworks$Residues" "divisor" "LResidueworks$Whole;") ∈ zTg := zt_1 (i := 160) rfl rfl
theorem zw_1_161 : (Jvm.Cond.fieldLink "Residueworks" (397 : Nat) "Residueworks$Residues" "divisor" "LResidueworks$Whole;") ∈ zTg := zt_1 (i := 161) rfl rfl
theorem zw_1_162 : (Jvm.Cond.fieldLink "Residueworks$Residues" (22 : Nat) "Residueworks$Residues" "multiple" "LResidueworks$Whole;") ∈ zTg := zt_1 (i := 162) rfl rfl
theorem zw_1_163 : (Jvm.Cond.fieldLink "Residueworks" (403 : Nat) "Residueworks$Residues" "multiple" "LResidueworks$Whole;") ∈ zTg := zt_1 (i := 163) rfl rfl
theorem zw_1_164 : (Jvm.Cond.fieldLink "Residueworks$Residues" (28 : Nat) "Residueworks$Residues" "division" "LResidueworks$Division;") ∈ zTg := zt_1 (i := 164) rfl rfl
theorem zw_1_165 : (Jvm.Cond.fieldLink "Residueworks$Residues" (32 : Nat) "Residueworks$Residues" "base" "LResidueworks$Whole;") ∈ zTg := zt_1 (i := 165) rfl rfl
theorem zw_1_166 : (Jvm.Cond.fieldLink "Residueworks$Residues" (35 : Nat) "Residueworks$Residues" "product" "LResidueworks$Whole;") ∈ zTg := zt_1 (i := 166) rfl rfl
theorem zw_1_167 : (Jvm.Cond.fieldLink "Residueworks$Residues" (38 : Nat) "Residueworks$Residues" "numberOne" "LResidueworks$Whole;") ∈ zTg := zt_1 (i := 167) rfl rfl
theorem zw_1_168 : (Jvm.Cond.fieldLink "Residueworks$Residues" (41 : Nat) "Residueworks$Residues" "numberTwo" "LResidueworks$Whole;") ∈ zTg := zt_1 (i := 168) rfl rfl
theorem zw_1_169 : (Jvm.Cond.fieldLink "Residueworks$Residues" (44 : Nat) "Residueworks$Residues" "factorOne" "LResidueworks$Whole;") ∈ zTg := zt_1 (i := 169) rfl rfl
theorem zw_1_170 : (Jvm.Cond.fieldLink "Residueworks$Residues" (47 : Nat) "Residueworks$Residues" "factorTwo" "LResidueworks$Whole;") ∈ zTg := zt_1 (i := 170) rfl rfl
theorem zw_1_171 : (Jvm.Cond.laysFinal "Residueworks$Residues" "Residueworks$Residues" "raised" "LResidueworks$Whole;") ∈ zTg := zt_1 (i := 171) rfl rfl
theorem zw_1_173 : (Jvm.Cond.laysFinal "Residueworks$Residues" "Residueworks$Residues" "inverse" "LResidueworks$Whole;") ∈ zTg := zt_1 (i := 173) rfl rfl
theorem zw_1_175 : (Jvm.Cond.laysFinal "Residueworks$Residues" "Residueworks$Residues" "divisor" "LResidueworks$Whole;") ∈ zTg := zt_1 (i := 175) rfl rfl
theorem zw_1_177 : (Jvm.Cond.laysFinal "Residueworks$Residues" "Residueworks$Residues" "multiple" "LResidueworks$Whole;") ∈ zTg := zt_1 (i := 177) rfl rfl
theorem zw_1_179 : (Jvm.Cond.laysFinal "Residueworks$Residues" "Residueworks$Residues" "division" "LResidueworks$Division;") ∈ zTg := zt_1 (i := 179) rfl rfl
theorem zw_1_181 : (Jvm.Cond.laysFinal "Residueworks$Residues" "Residueworks$Residues" "base" "LResidueworks$Whole;") ∈ zTg := zt_1 (i := 181) rfl rfl
theorem zw_1_183 : (Jvm.Cond.laysFinal "Residueworks$Residues" "Residueworks$Residues" "product" "LResidueworks$Whole;") ∈ zTg := zt_1 (i := 183) rfl rfl
theorem zw_1_185 : (Jvm.Cond.laysFinal "Residueworks$Residues" "Residueworks$Residues" "numberOne" "LResidueworks$Whole;") ∈ zTg := zt_1 (i := 185) rfl rfl
theorem zw_1_187 : (Jvm.Cond.laysFinal "Residueworks$Residues" "Residueworks$Residues" "numberTwo" "LResidueworks$Whole;") ∈ zTg := zt_1 (i := 187) rfl rfl
theorem zw_1_189 : (Jvm.Cond.laysFinal "Residueworks$Residues" "Residueworks$Residues" "factorOne" "LResidueworks$Whole;") ∈ zTg := zt_1 (i := 189) rfl rfl
theorem zw_1_191 : (Jvm.Cond.laysFinal "Residueworks$Residues" "Residueworks$Residues" "factorTwo" "LResidueworks$Whole;") ∈ zTg := zt_1 (i := 191) rfl rfl
theorem zw_1_194 : (Jvm.Cond.classLink "Residueworks" (43 : Nat) "Residueworks$Roots") ∈ zTg := zt_1 (i := 194) rfl rfl
theorem zw_1_195 : (Jvm.Cond.instantiable "Residueworks$Roots" (6 : Nat)) ∈ zTg := zt_1 (i := 195) rfl rfl
theorem zw_1_196 : (Jvm.Cond.methodLinkNest "Residueworks" (45 : Nat) ({ cls := "Residueworks$Roots", name := "<init>", desc := "()V" } : Jvm.MethodName) "Residueworks") ∈ zTn := zn_1 (i := 196) rfl rfl
theorem zw_1_197 : (Jvm.Cond.instanceMethod ({ cls := "Residueworks$Roots", name := "<init>", desc := "()V" } : Jvm.MethodName)) ∈ zTg := zt_1 (i := 197) rfl rfl
theorem zw_1_198 : (Jvm.Cond.code ({ cls := "Residueworks$Roots", name := "<init>", desc := "()V" } : Jvm.MethodName) prog_5_method_1_code (1 : Nat) (Option.none : Option Jvm.ClassFile.FieldType)) ∈ zTg := zt_1 (i := 198) rfl rfl
theorem zw_1_199 : (Jvm.Cond.methodLink "Residueworks$Roots" (1 : Nat) ({ cls := "java/lang/Object", name := "<init>", desc := "()V" } : Jvm.MethodName)) ∈ zTg := zt_1 (i := 199) rfl rfl
theorem zw_1_200 : (Jvm.Cond.classLink "Residueworks$Roots" (7 : Nat) "Residueworks$Whole") ∈ zTg := zt_1 (i := 200) rfl rfl
theorem zw_1_201 : (Jvm.Cond.methodLinkNest "Residueworks$Roots" (9 : Nat) ({ cls := "Residueworks$Whole", name := "<init>", desc := "()V" } : Jvm.MethodName) "Residueworks") ∈ zTn := zn_1 (i := 201) rfl rfl
theorem zw_1_202 : (Jvm.Cond.fieldLink "Residueworks$Roots" (10 : Nat) "Residueworks$Roots" "raised" "LResidueworks$Whole;") ∈ zTg := zt_1 (i := 202) rfl rfl
theorem zw_1_203 : (Jvm.Cond.fieldLink "Residueworks$Theorem" (200 : Nat) "Residueworks$Roots" "raised" "LResidueworks$Whole;") ∈ zTg := zt_1 (i := 203) rfl rfl
theorem zw_1_204 : (Jvm.Cond.fieldLink "Residueworks" (174 : Nat) "Residueworks$Roots" "raised" "LResidueworks$Whole;") ∈ zTg := zt_1 (i := 204) rfl rfl
theorem zw_1_205 : (Jvm.Cond.fieldLink "Residueworks$Roots" (16 : Nat) "Residueworks$Roots" "greatest" "LResidueworks$Whole;") ∈ zTg := zt_1 (i := 205) rfl rfl
theorem zw_1_206 : (Jvm.Cond.fieldLink "Residueworks$Theorem" (193 : Nat) "Residueworks$Roots" "greatest" "LResidueworks$Whole;") ∈ zTg := zt_1 (i := 206) rfl rfl
theorem zw_1_207 : (Jvm.Cond.fieldLink "Residueworks" (322 : Nat) "Residueworks$Roots" "greatest" "LResidueworks$Whole;") ∈ zTg := zt_1 (i := 207) rfl rfl
theorem zw_1_208 : (Jvm.Cond.fieldLink "Residueworks$Roots" (19 : Nat) "Residueworks$Roots" "spare" "LResidueworks$Whole;") ∈ zTg := zt_1 (i := 208) rfl rfl
theorem zw_1_209 : (Jvm.Cond.fieldLink "Residueworks$Roots" (22 : Nat) "Residueworks$Roots" "trial" "LResidueworks$Whole;") ∈ zTg := zt_1 (i := 209) rfl rfl
theorem zw_1_210 : (Jvm.Cond.fieldLink "Residueworks$Roots" (25 : Nat) "Residueworks$Roots" "step" "LResidueworks$Whole;") ∈ zTg := zt_1 (i := 210) rfl rfl
theorem zw_1_211 : (Jvm.Cond.fieldLink "Residueworks$Roots" (28 : Nat) "Residueworks$Roots" "base" "LResidueworks$Whole;") ∈ zTg := zt_1 (i := 211) rfl rfl
theorem zw_1_212 : (Jvm.Cond.laysFinal "Residueworks$Roots" "Residueworks$Roots" "raised" "LResidueworks$Whole;") ∈ zTg := zt_1 (i := 212) rfl rfl
theorem zw_1_214 : (Jvm.Cond.laysFinal "Residueworks$Roots" "Residueworks$Roots" "greatest" "LResidueworks$Whole;") ∈ zTg := zt_1 (i := 214) rfl rfl
theorem zw_1_216 : (Jvm.Cond.laysFinal "Residueworks$Roots" "Residueworks$Roots" "spare" "LResidueworks$Whole;") ∈ zTg := zt_1 (i := 216) rfl rfl
theorem zw_1_218 : (Jvm.Cond.laysFinal "Residueworks$Roots" "Residueworks$Roots" "trial" "LResidueworks$Whole;") ∈ zTg := zt_1 (i := 218) rfl rfl
theorem zw_1_220 : (Jvm.Cond.laysFinal "Residueworks$Roots" "Residueworks$Roots" "step" "LResidueworks$Whole;") ∈ zTg := zt_1 (i := 220) rfl rfl
theorem zw_1_222 : (Jvm.Cond.laysFinal "Residueworks$Roots" "Residueworks$Roots" "base" "LResidueworks$Whole;") ∈ zTg := zt_1 (i := 222) rfl rfl
theorem zw_1_225 : (Jvm.Cond.classLink "Residueworks" (50 : Nat) "Residueworks$Conditions") ∈ zTg := zt_1 (i := 225) rfl rfl
theorem zw_1_226 : (Jvm.Cond.instantiable "Residueworks$Conditions" (12 : Nat)) ∈ zTg := zt_1 (i := 226) rfl rfl
theorem zw_1_227 : (Jvm.Cond.methodLink "Residueworks" (52 : Nat) ({ cls := "Residueworks$Conditions", name := "<init>", desc := "()V" } : Jvm.MethodName)) ∈ zTg := zt_1 (i := 227) rfl rfl
theorem zw_1_228 : (Jvm.Cond.instanceMethod ({ cls := "Residueworks$Conditions", name := "<init>", desc := "()V" } : Jvm.MethodName)) ∈ zTg := zt_1 (i := 228) rfl rfl
theorem zw_1_229 : (Jvm.Cond.code ({ cls := "Residueworks$Conditions", name := "<init>", desc := "()V" } : Jvm.MethodName) prog_2_method_1_code (2 : Nat) (Option.none : Option Jvm.ClassFile.FieldType)) ∈ zTg := zt_1 (i := 229) rfl rfl
theorem zw_1_230 : (Jvm.Cond.methodLink "Residueworks$Conditions" (1 : Nat) ({ cls := "java/lang/Object", name := "<init>", desc := "()V" } : Jvm.MethodName)) ∈ zTg := zt_1 (i := 230) rfl rfl
theorem zw_1_231 : (Jvm.Cond.classLink "Residueworks$Conditions" (7 : Nat) "Residueworks$Whole") ∈ zTg := zt_1 (i := 231) rfl rfl
theorem zw_1_232 : (Jvm.Cond.methodLinkNest "Residueworks$Conditions" (9 : Nat) ({ cls := "Residueworks$Whole", name := "<init>", desc := "()V" } : Jvm.MethodName) "Residueworks") ∈ zTn := zn_1 (i := 232) rfl rfl
theorem zw_1_233 : (Jvm.Cond.classLink "Residueworks$Conditions" (26 : Nat) "Residueworks$Division") ∈ zTg := zt_1 (i := 233) rfl rfl
theorem zw_1_234 : (Jvm.Cond.methodLinkNest "Residueworks$Conditions" (28 : Nat) ({ cls := "Residueworks$Division", name := "<init>", desc := "()V" } : Jvm.MethodName) "Residueworks") ∈ zTn := zn_1 (i := 234) rfl rfl
theorem zw_1_235 : (Jvm.Cond.classLink "Residueworks$Conditions" (33 : Nat) "Residueworks$Residues") ∈ zTg := zt_1 (i := 235) rfl rfl
theorem zw_1_236 : (Jvm.Cond.methodLinkNest "Residueworks$Conditions" (35 : Nat) ({ cls := "Residueworks$Residues", name := "<init>", desc := "()V" } : Jvm.MethodName) "Residueworks") ∈ zTn := zn_1 (i := 236) rfl rfl
theorem zw_1_237 : (Jvm.Cond.fieldLink "Residueworks$Conditions" (10 : Nat) "Residueworks$Conditions" "number" "LResidueworks$Whole;") ∈ zTg := zt_1 (i := 237) rfl rfl
theorem zw_1_239 : (Jvm.Cond.fieldLink "Residueworks" (313 : Nat) "Residueworks$Conditions" "number" "LResidueworks$Whole;") ∈ zTg := zt_1 (i := 239) rfl rfl
theorem zws_2 : Cond.selects "Residueworks$Whole" ⟨"Residueworks$Whole", "join", "(LResidueworks$Whole;LResidueworks$Whole;I)V"⟩ ⟨"Residueworks$Whole", "join", "(LResidueworks$Whole;LResidueworks$Whole;I)V"⟩ ∈ zTg := zsel (i := 2) (q := (⟨"Residueworks$Whole", "join", "(LResidueworks$Whole;LResidueworks$Whole;I)V"⟩, 3)) (by decide +kernel)
theorem zw_2_0 : (Jvm.Cond.fieldLink "Residueworks$Conditions" (16 : Nat) "Residueworks$Conditions" "multiple" "LResidueworks$Whole;") ∈ zTg := zt_2 (i := 0) rfl rfl
theorem zw_2_2 : (Jvm.Cond.fieldLink "Residueworks" (316 : Nat) "Residueworks$Conditions" "multiple" "LResidueworks$Whole;") ∈ zTg := zt_2 (i := 2) rfl rfl
theorem zw_2_3 : (Jvm.Cond.fieldLink "Residueworks$Conditions" (55 : Nat) "Residueworks$Conditions" "count" "I") ∈ zTg := zt_2 (i := 3) rfl rfl
theorem zw_2_5 : (Jvm.Cond.fieldLink "Residueworks" (304 : Nat) "Residueworks$Conditions" "count" "I") ∈ zTg := zt_2 (i := 5) rfl rfl
theorem zw_2_6 : (Jvm.Cond.fieldLink "Residueworks$Conditions" (19 : Nat) "Residueworks$Conditions" "rests" "[LResidueworks$Whole;") ∈ zTg := zt_2 (i := 6) rfl rfl
theorem zw_2_7 : (Jvm.Cond.fieldLink "Residueworks$Conditions" (23 : Nat) "Residueworks$Conditions" "moduli" "[LResidueworks$Whole;") ∈ zTg := zt_2 (i := 7) rfl rfl
theorem zw_2_8 : (Jvm.Cond.fieldLink "Residueworks$Conditions" (29 : Nat) "Residueworks$Conditions" "division" "LResidueworks$Division;") ∈ zTg := zt_2 (i := 8) rfl rfl
theorem zw_2_9 : (Jvm.Cond.fieldLink "Residueworks$Conditions" (36 : Nat) "Residueworks$Conditions" "residues" "LResidueworks$Residues;") ∈ zTg := zt_2 (i := 9) rfl rfl
theorem zw_2_10 : (Jvm.Cond.fieldLink "Residueworks$Conditions" (40 : Nat) "Residueworks$Conditions" "difference" "LResidueworks$Whole;") ∈ zTg := zt_2 (i := 10) rfl rfl
theorem zw_2_11 : (Jvm.Cond.fieldLink "Residueworks$Conditions" (43 : Nat) "Residueworks$Conditions" "factor" "LResidueworks$Whole;") ∈ zTg := zt_2 (i := 11) rfl rfl
theorem zw_2_12 : (Jvm.Cond.fieldLink "Residueworks$Conditions" (46 : Nat) "Residueworks$Conditions" "step" "LResidueworks$Whole;") ∈ zTg := zt_2 (i := 12) rfl rfl
theorem zw_2_13 : (Jvm.Cond.fieldLink "Residueworks$Conditions" (49 : Nat) "Residueworks$Conditions" "product" "LResidueworks$Whole;") ∈ zTg := zt_2 (i := 13) rfl rfl
theorem zw_2_14 : (Jvm.Cond.fieldLink "Residueworks$Conditions" (52 : Nat) "Residueworks$Conditions" "longer" "LResidueworks$Whole;") ∈ zTg := zt_2 (i := 14) rfl rfl
theorem zw_2_15 : (Jvm.Cond.laysFinal "Residueworks$Conditions" "Residueworks$Conditions" "number" "LResidueworks$Whole;") ∈ zTg := zt_2 (i := 15) rfl rfl
theorem zw_2_17 : (Jvm.Cond.laysFinal "Residueworks$Conditions" "Residueworks$Conditions" "multiple" "LResidueworks$Whole;") ∈ zTg := zt_2 (i := 17) rfl rfl
theorem zw_2_19 : (Jvm.Cond.lays "Residueworks$Conditions" "Residueworks$Conditions" "count" "I") ∈ zTg := zt_2 (i := 19) rfl rfl
theorem zw_2_21 : (Jvm.Cond.laysFinal "Residueworks$Conditions" "Residueworks$Conditions" "rests" "[LResidueworks$Whole;") ∈ zTg := zt_2 (i := 21) rfl rfl
theorem zw_2_23 : (Jvm.Cond.laysFinal "Residueworks$Conditions" "Residueworks$Conditions" "moduli" "[LResidueworks$Whole;") ∈ zTg := zt_2 (i := 23) rfl rfl
theorem zw_2_25 : (Jvm.Cond.laysFinal "Residueworks$Conditions" "Residueworks$Conditions" "division" "LResidueworks$Division;") ∈ zTg := zt_2 (i := 25) rfl rfl
theorem zw_2_27 : (Jvm.Cond.laysFinal "Residueworks$Conditions" "Residueworks$Conditions" "residues" "LResidueworks$Residues;") ∈ zTg := zt_2 (i := 27) rfl rfl
theorem zw_2_29 : (Jvm.Cond.laysFinal "Residueworks$Conditions" "Residueworks$Conditions" "difference" "LResidueworks$Whole;") ∈ zTg := zt_2 (i := 29) rfl rfl
theorem zw_2_31 : (Jvm.Cond.laysFinal "Residueworks$Conditions" "Residueworks$Conditions" "factor" "LResidueworks$Whole;") ∈ zTg := zt_2 (i := 31) rfl rfl
theorem zw_2_33 : (Jvm.Cond.laysFinal "Residueworks$Conditions" "Residueworks$Conditions" "step" "LResidueworks$Whole;") ∈ zTg := zt_2 (i := 33) rfl rfl
theorem zw_2_35 : (Jvm.Cond.laysFinal "Residueworks$Conditions" "Residueworks$Conditions" "product" "LResidueworks$Whole;") ∈ zTg := zt_2 (i := 35) rfl rfl
theorem zw_2_37 : (Jvm.Cond.laysFinal "Residueworks$Conditions" "Residueworks$Conditions" "longer" "LResidueworks$Whole;") ∈ zTg := zt_2 (i := 37) rfl rfl
theorem zw_2_40 : (Jvm.Cond.classLink "Residueworks" (57 : Nat) "Residueworks$Theorem") ∈ zTg := zt_2 (i := 40) rfl rfl
theorem zw_2_41 : (Jvm.Cond.instantiable "Residueworks$Theorem" (15 : Nat)) ∈ zTg := zt_2 (i := 41) rfl rfl
theorem zw_2_42 : (Jvm.Cond.methodLink "Residueworks" (59 : Nat) ({ cls := "Residueworks$Theorem", name := "<init>", desc := "()V" } : Jvm.MethodName)) ∈ zTg := zt_2 (i := 42) rfl rfl
theorem zw_2_43 : (Jvm.Cond.instanceMethod ({ cls := "Residueworks$Theorem", name := "<init>", desc := "()V" } : Jvm.MethodName)) ∈ zTg := zt_2 (i := 43) rfl rfl
theorem zw_2_44 : (Jvm.Cond.code ({ cls := "Residueworks$Theorem", name := "<init>", desc := "()V" } : Jvm.MethodName) prog_9_method_1_code (1 : Nat) (Option.none : Option Jvm.ClassFile.FieldType)) ∈ zTg := zt_2 (i := 44) rfl rfl
theorem zw_2_45 : (Jvm.Cond.methodLink "Residueworks$Theorem" (3 : Nat) ({ cls := "java/lang/Object", name := "<init>", desc := "()V" } : Jvm.MethodName)) ∈ zTg := zt_2 (i := 45) rfl rfl
theorem zw_2_46 : (Jvm.Cond.classLink "Residueworks$Theorem" (9 : Nat) "Residueworks$Division") ∈ zTg := zt_2 (i := 46) rfl rfl
theorem zw_2_47 : (Jvm.Cond.methodLinkNest "Residueworks$Theorem" (11 : Nat) ({ cls := "Residueworks$Division", name := "<init>", desc := "()V" } : Jvm.MethodName) "Residueworks") ∈ zTn := zn_2 (i := 47) rfl rfl
theorem zw_2_48 : (Jvm.Cond.classLink "Residueworks$Theorem" (18 : Nat) "Residueworks$Residues") ∈ zTg := zt_2 (i := 48) rfl rfl
theorem zw_2_49 : (Jvm.Cond.methodLinkNest "Residueworks$Theorem" (20 : Nat) ({ cls := "Residueworks$Residues", name := "<init>", desc := "()V" } : Jvm.MethodName) "Residueworks") ∈ zTn := zn_2 (i := 49) rfl rfl
theorem zw_2_50 : (Jvm.Cond.classLink "Residueworks$Theorem" (25 : Nat) "Residueworks$Roots") ∈ zTg := zt_2 (i := 50) rfl rfl
theorem zw_2_51 : (Jvm.Cond.methodLinkNest "Residueworks$Theorem" (27 : Nat) ({ cls := "Residueworks$Roots", name := "<init>", desc := "()V" } : Jvm.MethodName) "Residueworks") ∈ zTn := zn_2 (i := 51) rfl rfl
theorem zw_2_52 : (Jvm.Cond.classLink "Residueworks$Theorem" (32 : Nat) "Residueworks$Conditions") ∈ zTg := zt_2 (i := 52) rfl rfl
theorem zw_2_53 : (Jvm.Cond.methodLink "Residueworks$Theorem" (34 : Nat) ({ cls := "Residueworks$Conditions", name := "<init>", desc := "()V" } : Jvm.MethodName)) ∈ zTg := zt_2 (i := 53) rfl rfl
theorem zw_2_54 : (Jvm.Cond.classLink "Residueworks$Theorem" (39 : Nat) "Residueworks$Text") ∈ zTg := zt_2 (i := 54) rfl rfl
theorem zw_2_55 : (Jvm.Cond.methodLinkNest "Residueworks$Theorem" (41 : Nat) ({ cls := "Residueworks$Text", name := "<init>", desc := "()V" } : Jvm.MethodName) "Residueworks") ∈ zTn := zn_2 (i := 55) rfl rfl
theorem zw_2_56 : (Jvm.Cond.classLink "Residueworks$Theorem" (46 : Nat) "Residueworks$Row") ∈ zTg := zt_2 (i := 56) rfl rfl
theorem zw_2_57 : (Jvm.Cond.methodLinkNest "Residueworks$Theorem" (48 : Nat) ({ cls := "Residueworks$Row", name := "<init>", desc := "()V" } : Jvm.MethodName) "Residueworks") ∈ zTn := zn_2 (i := 57) rfl rfl
theorem zw_2_58 : (Jvm.Cond.classLink "Residueworks$Theorem" (53 : Nat) "Residueworks$Whole") ∈ zTg := zt_2 (i := 58) rfl rfl
theorem zw_2_59 : (Jvm.Cond.methodLinkNest "Residueworks$Theorem" (55 : Nat) ({ cls := "Residueworks$Whole", name := "<init>", desc := "()V" } : Jvm.MethodName) "Residueworks") ∈ zTn := zn_2 (i := 59) rfl rfl
theorem zw_2_60 : (Jvm.Cond.methodLink "Residueworks$Theorem" (84 : Nat) ({ cls := "Residueworks$Whole", name := "becomeLong", desc := "(J)V" } : Jvm.MethodName)) ∈ zTg := zt_2 (i := 60) rfl rfl
theorem zw_2_61 : (Jvm.Cond.instanceMethod ({ cls := "Residueworks$Whole", name := "becomeLong", desc := "(J)V" } : Jvm.MethodName)) ∈ zTg := zt_2 (i := 61) rfl rfl
theorem zw_2_62 : (Jvm.Cond.selects "Residueworks$Whole" ({ cls := "Residueworks$Whole", name := "becomeLong", desc := "(J)V" } : Jvm.MethodName) ({ cls := "Residueworks$Whole", name := "becomeLong", desc := "(J)V" } : Jvm.MethodName)) ∈ zTg := zt_2 (i := 62) rfl rfl
theorem zw_2_63 : (Jvm.Cond.code ({ cls := "Residueworks$Whole", name := "becomeLong", desc := "(J)V" } : Jvm.MethodName) prog_10_method_7_code (3 : Nat) (Option.none : Option Jvm.ClassFile.FieldType)) ∈ zTg := zt_2 (i := 63) rfl rfl
theorem zw_2_64 : (Jvm.Cond.methodLink "Residueworks$Whole" (30 : Nat) ({ cls := "Residueworks$Whole", name := "becomeUnsigned", desc := "(J)V" } : Jvm.MethodName)) ∈ zTg := zt_2 (i := 64) rfl rfl
theorem zw_2_65 : (Jvm.Cond.instanceMethod ({ cls := "Residueworks$Whole", name := "becomeUnsigned", desc := "(J)V" } : Jvm.MethodName)) ∈ zTg := zt_2 (i := 65) rfl rfl
theorem zw_2_66 : (Jvm.Cond.selects "Residueworks$Whole" ({ cls := "Residueworks$Whole", name := "becomeUnsigned", desc := "(J)V" } : Jvm.MethodName) ({ cls := "Residueworks$Whole", name := "becomeUnsigned", desc := "(J)V" } : Jvm.MethodName)) ∈ zTg := zt_2 (i := 66) rfl rfl
theorem zw_2_67 : (Jvm.Cond.code ({ cls := "Residueworks$Whole", name := "becomeUnsigned", desc := "(J)V" } : Jvm.MethodName) prog_10_method_8_code (3 : Nat) (Option.none : Option Jvm.ClassFile.FieldType)) ∈ zTg := zt_2 (i := 67) rfl rfl
theorem zw_2_68 : (Jvm.Cond.constantLong "Residueworks$Whole" (34 : Nat) (1073741823 : Int64)) ∈ zTg := zt_2 (i := 68) rfl rfl
theorem zw_2_69 : (Jvm.Cond.methodLink "Residueworks$Whole" (36 : Nat) ({ cls := "Residueworks$Whole", name := "setLimb", desc := "(II)V" } : Jvm.MethodName)) ∈ zTg := zt_2 (i := 69) rfl rfl
theorem zw_2_70 : (Jvm.Cond.instanceMethod ({ cls := "Residueworks$Whole", name := "setLimb", desc := "(II)V" } : Jvm.MethodName)) ∈ zTg := zt_2 (i := 70) rfl rfl
theorem zw_2_71 : (Jvm.Cond.selects "Residueworks$Whole" ({ cls := "Residueworks$Whole", name := "setLimb", desc := "(II)V" } : Jvm.MethodName) ({ cls := "Residueworks$Whole", name := "setLimb", desc := "(II)V" } : Jvm.MethodName)) ∈ zTg := zt_2 (i := 71) rfl rfl
theorem zw_2_72 : (Jvm.Cond.code ({ cls := "Residueworks$Whole", name := "setLimb", desc := "(II)V" } : Jvm.MethodName) prog_10_method_3_code (3 : Nat) (Option.none : Option Jvm.ClassFile.FieldType)) ∈ zTg := zt_2 (i := 72) rfl rfl
theorem zw_2_73 : (Jvm.Cond.methodLink "Residueworks$Whole" (40 : Nat) ({ cls := "Residueworks$Whole", name := "settle", desc := "(II)V" } : Jvm.MethodName)) ∈ zTg := zt_2 (i := 73) rfl rfl
theorem zw_2_74 : (Jvm.Cond.instanceMethod ({ cls := "Residueworks$Whole", name := "settle", desc := "(II)V" } : Jvm.MethodName)) ∈ zTg := zt_2 (i := 74) rfl rfl
theorem zw_2_75 : (Jvm.Cond.selects "Residueworks$Whole" ({ cls := "Residueworks$Whole", name := "settle", desc := "(II)V" } : Jvm.MethodName) ({ cls := "Residueworks$Whole", name := "settle", desc := "(II)V" } : Jvm.MethodName)) ∈ zTg := zt_2 (i := 75) rfl rfl
theorem zw_2_76 : (Jvm.Cond.code ({ cls := "Residueworks$Whole", name := "settle", desc := "(II)V" } : Jvm.MethodName) prog_10_method_4_code (4 : Nat) (Option.none : Option Jvm.ClassFile.FieldType)) ∈ zTg := zt_2 (i := 76) rfl rfl
theorem zw_2_77 : (Jvm.Cond.constantLong "Residueworks$Theorem" (88 : Nat) (-1 : Int64)) ∈ zTg := zt_2 (i := 77) rfl rfl
theorem zw_2_78 : (Jvm.Cond.fieldLink "Residueworks$Theorem" (12 : Nat) "Residueworks$Theorem" "division" "LResidueworks$Division;") ∈ zTg := zt_2 (i := 78) rfl rfl
theorem zw_2_79 : (Jvm.Cond.fieldLink "Residueworks$Theorem" (21 : Nat) "Residueworks$Theorem" "residues" "LResidueworks$Residues;") ∈ zTg := zt_2 (i := 79) rfl rfl
theorem zw_2_80 : (Jvm.Cond.fieldLink "Residueworks$Theorem" (28 : Nat) "Residueworks$Theorem" "roots" "LResidueworks$Roots;") ∈ zTg := zt_2 (i := 80) rfl rfl
theorem zw_2_81 : (Jvm.Cond.fieldLink "Residueworks$Theorem" (35 : Nat) "Residueworks$Theorem" "conditions" "LResidueworks$Conditions;") ∈ zTg := zt_2 (i := 81) rfl rfl
theorem zw_2_82 : (Jvm.Cond.fieldLink "Residueworks$Theorem" (42 : Nat) "Residueworks$Theorem" "text" "LResidueworks$Text;") ∈ zTg := zt_2 (i := 82) rfl rfl
theorem zw_2_83 : (Jvm.Cond.fieldLink "Residueworks$Theorem" (49 : Nat) "Residueworks$Theorem" "row" "LResidueworks$Row;") ∈ zTg := zt_2 (i := 83) rfl rfl
theorem zw_2_84 : (Jvm.Cond.fieldLink "Residueworks$Theorem" (56 : Nat) "Residueworks$Theorem" "one" "LResidueworks$Whole;") ∈ zTg := zt_2 (i := 84) rfl rfl
theorem zw_2_85 : (Jvm.Cond.fieldLink "Residueworks$Theorem" (60 : Nat) "Residueworks$Theorem" "minusOne" "LResidueworks$Whole;") ∈ zTg := zt_2 (i := 85) rfl rfl
theorem zw_2_86 : (Jvm.Cond.fieldLink "Residueworks$Theorem" (63 : Nat) "Residueworks$Theorem" "a" "LResidueworks$Whole;") ∈ zTg := zt_2 (i := 86) rfl rfl
theorem zw_2_87 : (Jvm.Cond.fieldLink "Residueworks$Theorem" (66 : Nat) "Residueworks$Theorem" "b" "LResidueworks$Whole;") ∈ zTg := zt_2 (i := 87) rfl rfl
theorem zw_2_88 : (Jvm.Cond.fieldLink "Residueworks$Theorem" (69 : Nat) "Residueworks$Theorem" "c" "LResidueworks$Whole;") ∈ zTg := zt_2 (i := 88) rfl rfl
theorem zw_2_89 : (Jvm.Cond.fieldLink "Residueworks$Theorem" (72 : Nat) "Residueworks$Theorem" "d" "LResidueworks$Whole;") ∈ zTg := zt_2 (i := 89) rfl rfl
theorem zw_2_90 : (Jvm.Cond.fieldLink "Residueworks$Theorem" (75 : Nat) "Residueworks$Theorem" "inverse" "LResidueworks$Whole;") ∈ zTg := zt_2 (i := 90) rfl rfl
theorem zw_2_91 : (Jvm.Cond.fieldLink "Residueworks$Theorem" (78 : Nat) "Residueworks$Theorem" "exponentOne" "LResidueworks$Whole;") ∈ zTg := zt_2 (i := 91) rfl rfl
theorem zw_2_92 : (Jvm.Cond.fieldLink "Residueworks$Theorem" (81 : Nat) "Residueworks$Theorem" "exponentTwo" "LResidueworks$Whole;") ∈ zTg := zt_2 (i := 92) rfl rfl
theorem zw_2_93 : (Jvm.Cond.laysFinal "Residueworks$Theorem" "Residueworks$Theorem" "division" "LResidueworks$Division;") ∈ zTg := zt_2 (i := 93) rfl rfl
theorem zw_2_95 : (Jvm.Cond.laysFinal "Residueworks$Theorem" "Residueworks$Theorem" "residues" "LResidueworks$Residues;") ∈ zTg := zt_2 (i := 95) rfl rfl
theorem zw_2_97 : (Jvm.Cond.laysFinal "Residueworks$Theorem" "Residueworks$Theorem" "roots" "LResidueworks$Roots;") ∈ zTg := zt_2 (i := 97) rfl rfl
theorem zw_2_99 : (Jvm.Cond.laysFinal "Residueworks$Theorem" "Residueworks$Theorem" "conditions" "LResidueworks$Conditions;") ∈ zTg := zt_2 (i := 99) rfl rfl
theorem zw_2_101 : (Jvm.Cond.laysFinal "Residueworks$Theorem" "Residueworks$Theorem" "text" "LResidueworks$Text;") ∈ zTg := zt_2 (i := 101) rfl rfl
theorem zw_2_103 : (Jvm.Cond.laysFinal "Residueworks$Theorem" "Residueworks$Theorem" "row" "LResidueworks$Row;") ∈ zTg := zt_2 (i := 103) rfl rfl
theorem zw_2_105 : (Jvm.Cond.laysFinal "Residueworks$Theorem" "Residueworks$Theorem" "one" "LResidueworks$Whole;") ∈ zTg := zt_2 (i := 105) rfl rfl
theorem zw_2_107 : (Jvm.Cond.laysFinal "Residueworks$Theorem" "Residueworks$Theorem" "minusOne" "LResidueworks$Whole;") ∈ zTg := zt_2 (i := 107) rfl rfl
theorem zw_2_109 : (Jvm.Cond.laysFinal "Residueworks$Theorem" "Residueworks$Theorem" "a" "LResidueworks$Whole;") ∈ zTg := zt_2 (i := 109) rfl rfl
theorem zw_2_111 : (Jvm.Cond.laysFinal "Residueworks$Theorem" "Residueworks$Theorem" "b" "LResidueworks$Whole;") ∈ zTg := zt_2 (i := 111) rfl rfl
theorem zw_2_113 : (Jvm.Cond.laysFinal "Residueworks$Theorem" "Residueworks$Theorem" "c" "LResidueworks$Whole;") ∈ zTg := zt_2 (i := 113) rfl rfl
theorem zw_2_115 : (Jvm.Cond.laysFinal "Residueworks$Theorem" "Residueworks$Theorem" "d" "LResidueworks$Whole;") ∈ zTg := zt_2 (i := 115) rfl rfl
theorem zw_2_117 : (Jvm.Cond.laysFinal "Residueworks$Theorem" "Residueworks$Theorem" "inverse" "LResidueworks$Whole;") ∈ zTg := zt_2 (i := 117) rfl rfl
theorem zw_2_119 : (Jvm.Cond.laysFinal "Residueworks$Theorem" "Residueworks$Theorem" "exponentOne" "LResidueworks$Whole;") ∈ zTg := zt_2 (i := 119) rfl rfl
theorem zw_2_121 : (Jvm.Cond.laysFinal "Residueworks$Theorem" "Residueworks$Theorem" "exponentTwo" "LResidueworks$Whole;") ∈ zTg := zt_2 (i := 121) rfl rfl
theorem zw_2_124 : (Jvm.Cond.methodLinkNest "Residueworks" (64 : Nat) ({ cls := "Residueworks$Whole", name := "<init>", desc := "()V" } : Jvm.MethodName) "Residueworks") ∈ zTn := zn_2 (i := 124) rfl rfl
theorem zw_2_125 : (Jvm.Cond.fieldLink "Residueworks" (11 : Nat) "Residueworks" "registers" "[LResidueworks$Whole;") ∈ zTg := zt_2 (i := 125) rfl rfl
theorem zw_2_126 : (Jvm.Cond.fieldLink "Residueworks" (18 : Nat) "Residueworks" "text" "LResidueworks$Text;") ∈ zTg := zt_2 (i := 126) rfl rfl
theorem zw_2_127 : (Jvm.Cond.fieldLink "Residueworks" (25 : Nat) "Residueworks" "row" "LResidueworks$Row;") ∈ zTg := zt_2 (i := 127) rfl rfl
theorem zw_2_128 : (Jvm.Cond.fieldLink "Residueworks" (32 : Nat) "Residueworks" "division" "LResidueworks$Division;") ∈ zTg := zt_2 (i := 128) rfl rfl
theorem zw_2_129 : (Jvm.Cond.fieldLink "Residueworks" (39 : Nat) "Residueworks" "residues" "LResidueworks$Residues;") ∈ zTg := zt_2 (i := 129) rfl rfl
theorem zw_2_130 : (Jvm.Cond.fieldLink "Residueworks" (46 : Nat) "Residueworks" "roots" "LResidueworks$Roots;") ∈ zTg := zt_2 (i := 130) rfl rfl
theorem zw_2_131 : (Jvm.Cond.fieldLink "Residueworks" (53 : Nat) "Residueworks" "conditions" "LResidueworks$Conditions;") ∈ zTg := zt_2 (i := 131) rfl rfl
theorem zw_2_132 : (Jvm.Cond.fieldLink "Residueworks" (60 : Nat) "Residueworks" "theorem" "LResidueworks$Theorem;") ∈ zTg := zt_2 (i := 132) rfl rfl
theorem zw_2_133 : (Jvm.Cond.fieldLink "Residueworks" (65 : Nat) "Residueworks" "result" "LResidueworks$Whole;") ∈ zTg := zt_2 (i := 133) rfl rfl
theorem zw_2_134 : (Jvm.Cond.fieldLink "Residueworks" (69 : Nat) "Residueworks" "aside" "LResidueworks$Whole;") ∈ zTg := zt_2 (i := 134) rfl rfl
theorem zw_2_135 : (Jvm.Cond.laysFinal "Residueworks" "Residueworks" "registers" "[LResidueworks$Whole;") ∈ zTg := zt_2 (i := 135) rfl rfl
theorem zw_2_137 : (Jvm.Cond.laysFinal "Residueworks" "Residueworks" "text" "LResidueworks$Text;") ∈ zTg := zt_2 (i := 137) rfl rfl
theorem zw_2_139 : (Jvm.Cond.laysFinal "Residueworks" "Residueworks" "row" "LResidueworks$Row;") ∈ zTg := zt_2 (i := 139) rfl rfl
theorem zw_2_141 : (Jvm.Cond.laysFinal "Residueworks" "Residueworks" "division" "LResidueworks$Division;") ∈ zTg := zt_2 (i := 141) rfl rfl
theorem zw_2_143 : (Jvm.Cond.laysFinal "Residueworks" "Residueworks" "residues" "LResidueworks$Residues;") ∈ zTg := zt_2 (i := 143) rfl rfl
theorem zw_2_145 : (Jvm.Cond.laysFinal "Residueworks" "Residueworks" "roots" "LResidueworks$Roots;") ∈ zTg := zt_2 (i := 145) rfl rfl
theorem zw_2_147 : (Jvm.Cond.laysFinal "Residueworks" "Residueworks" "conditions" "LResidueworks$Conditions;") ∈ zTg := zt_2 (i := 147) rfl rfl
theorem zw_2_149 : (Jvm.Cond.laysFinal "Residueworks" "Residueworks" "theorem" "LResidueworks$Theorem;") ∈ zTg := zt_2 (i := 149) rfl rfl
theorem zw_2_151 : (Jvm.Cond.laysFinal "Residueworks" "Residueworks" "result" "LResidueworks$Whole;") ∈ zTg := zt_2 (i := 151) rfl rfl
theorem zw_2_153 : (Jvm.Cond.laysFinal "Residueworks" "Residueworks" "aside" "LResidueworks$Whole;") ∈ zTg := zt_2 (i := 153) rfl rfl
theorem zw_2_156 : (Jvm.Cond.methodLink "ResidueworksLaw" (210 : Nat) ({ cls := "Residueworks", name := "erase", desc := "()I" } : Jvm.MethodName)) ∈ zTg := zt_2 (i := 156) rfl rfl
theorem zw_2_157 : (Jvm.Cond.instanceMethod ({ cls := "Residueworks", name := "erase", desc := "()I" } : Jvm.MethodName)) ∈ zTg := zt_2 (i := 157) rfl rfl
theorem zw_2_158 : (Jvm.Cond.selects "Residueworks" ({ cls := "Residueworks", name := "erase", desc := "()I" } : Jvm.MethodName) ({ cls := "Residueworks", name := "erase", desc := "()I" } : Jvm.MethodName)) ∈ zTg := zt_2 (i := 158) rfl rfl
theorem zw_2_159 : (Jvm.Cond.code ({ cls := "Residueworks", name := "erase", desc := "()I" } : Jvm.MethodName) prog_1_method_17_code (2 : Nat) (Option.some Jvm.ClassFile.FieldType.int)) ∈ zTg := zt_2 (i := 159) rfl rfl
theorem zw_2_160 : (Jvm.Cond.methodLink "ResidueworksLaw" (226 : Nat) ({ cls := "Residueworks", name := "clearRow", desc := "()I" } : Jvm.MethodName)) ∈ zTg := zt_2 (i := 160) rfl rfl
theorem zw_2_161 : (Jvm.Cond.instanceMethod ({ cls := "Residueworks", name := "clearRow", desc := "()I" } : Jvm.MethodName)) ∈ zTg := zt_2 (i := 161) rfl rfl
theorem zw_2_162 : (Jvm.Cond.selects "Residueworks" ({ cls := "Residueworks", name := "clearRow", desc := "()I" } : Jvm.MethodName) ({ cls := "Residueworks", name := "clearRow", desc := "()I" } : Jvm.MethodName)) ∈ zTg := zt_2 (i := 162) rfl rfl
theorem zw_2_163 : (Jvm.Cond.code ({ cls := "Residueworks", name := "clearRow", desc := "()I" } : Jvm.MethodName) prog_1_method_22_code (2 : Nat) (Option.some Jvm.ClassFile.FieldType.int)) ∈ zTg := zt_2 (i := 163) rfl rfl
theorem zw_2_164 : (Jvm.Cond.methodLink "ResidueworksLaw" (269 : Nat) ({ cls := "Residueworks", name := "forget", desc := "()I" } : Jvm.MethodName)) ∈ zTg := zt_2 (i := 164) rfl rfl
theorem zw_2_165 : (Jvm.Cond.instanceMethod ({ cls := "Residueworks", name := "forget", desc := "()I" } : Jvm.MethodName)) ∈ zTg := zt_2 (i := 165) rfl rfl
theorem zw_2_166 : (Jvm.Cond.selects "Residueworks" ({ cls := "Residueworks", name := "forget", desc := "()I" } : Jvm.MethodName) ({ cls := "Residueworks", name := "forget", desc := "()I" } : Jvm.MethodName)) ∈ zTg := zt_2 (i := 166) rfl rfl
theorem zw_2_167 : (Jvm.Cond.code ({ cls := "Residueworks", name := "forget", desc := "()I" } : Jvm.MethodName) prog_1_method_36_code (2 : Nat) (Option.some Jvm.ClassFile.FieldType.int)) ∈ zTg := zt_2 (i := 167) rfl rfl
theorem zw_2_168 : (Jvm.Cond.methodLink "ResidueworksLaw" (283 : Nat) ({ cls := "Residueworks", name := "meanLength", desc := "()D" } : Jvm.MethodName)) ∈ zTg := zt_2 (i := 168) rfl rfl
theorem zw_2_169 : (Jvm.Cond.instanceMethod ({ cls := "Residueworks", name := "meanLength", desc := "()D" } : Jvm.MethodName)) ∈ zTg := zt_2 (i := 169) rfl rfl
theorem zw_2_170 : (Jvm.Cond.selects "Residueworks" ({ cls := "Residueworks", name := "meanLength", desc := "()D" } : Jvm.MethodName) ({ cls := "Residueworks", name := "meanLength", desc := "()D" } : Jvm.MethodName)) ∈ zTg := zt_2 (i := 170) rfl rfl
theorem zw_2_171 : (Jvm.Cond.code ({ cls := "Residueworks", name := "meanLength", desc := "()D" } : Jvm.MethodName) prog_1_method_40_code (3 : Nat) (Option.some Jvm.ClassFile.FieldType.double)) ∈ zTg := zt_2 (i := 171) rfl rfl
theorem zw_2_172 : (Jvm.Cond.methodLink "Residueworks" (80 : Nat) ({ cls := "Residueworks$Whole", name := "bitLength", desc := "()I" } : Jvm.MethodName)) ∈ zTg := zt_2 (i := 172) rfl rfl
theorem zw_2_173 : (Jvm.Cond.instanceMethod ({ cls := "Residueworks$Whole", name := "bitLength", desc := "()I" } : Jvm.MethodName)) ∈ zTg := zt_2 (i := 173) rfl rfl
theorem zw_2_174 : (Jvm.Cond.selects "Residueworks$Whole" ({ cls := "Residueworks$Whole", name := "bitLength", desc := "()I" } : Jvm.MethodName) ({ cls := "Residueworks$Whole", name := "bitLength", desc := "()I" } : Jvm.MethodName)) ∈ zTg := zt_2 (i := 174) rfl rfl
theorem zw_2_175 : (Jvm.Cond.code ({ cls := "Residueworks$Whole", name := "bitLength", desc := "()I" } : Jvm.MethodName) prog_10_method_14_code (2 : Nat) (Option.some Jvm.ClassFile.FieldType.int)) ∈ zTg := zt_2 (i := 175) rfl rfl
theorem zw_2_176 : (Jvm.Cond.methodLink "Residueworks$Whole" (62 : Nat) ({ cls := "Residueworks$Whole", name := "amountLength", desc := "()I" } : Jvm.MethodName)) ∈ zTg := zt_2 (i := 176) rfl rfl
theorem zw_2_177 : (Jvm.Cond.instanceMethod ({ cls := "Residueworks$Whole", name := "amountLength", desc := "()I" } : Jvm.MethodName)) ∈ zTg := zt_2 (i := 177) rfl rfl
theorem zw_2_178 : (Jvm.Cond.selects "Residueworks$Whole" ({ cls := "Residueworks$Whole", name := "amountLength", desc := "()I" } : Jvm.MethodName) ({ cls := "Residueworks$Whole", name := "amountLength", desc := "()I" } : Jvm.MethodName)) ∈ zTg := zt_2 (i := 178) rfl rfl
theorem zw_2_179 : (Jvm.Cond.code ({ cls := "Residueworks$Whole", name := "amountLength", desc := "()I" } : Jvm.MethodName) prog_10_method_13_code (1 : Nat) (Option.some Jvm.ClassFile.FieldType.int)) ∈ zTg := zt_2 (i := 179) rfl rfl
theorem zw_2_180 : (Jvm.Cond.methodLink "Residueworks$Whole" (49 : Nat) ({ cls := "Residueworks$Whole", name := "limb", desc := "(I)I" } : Jvm.MethodName)) ∈ zTg := zt_2 (i := 180) rfl rfl
theorem zw_2_181 : (Jvm.Cond.instanceMethod ({ cls := "Residueworks$Whole", name := "limb", desc := "(I)I" } : Jvm.MethodName)) ∈ zTg := zt_2 (i := 181) rfl rfl
theorem zw_2_182 : (Jvm.Cond.selects "Residueworks$Whole" ({ cls := "Residueworks$Whole", name := "limb", desc := "(I)I" } : Jvm.MethodName) ({ cls := "Residueworks$Whole", name := "limb", desc := "(I)I" } : Jvm.MethodName)) ∈ zTg := zt_2 (i := 182) rfl rfl
theorem zw_2_183 : (Jvm.Cond.code ({ cls := "Residueworks$Whole", name := "limb", desc := "(I)I" } : Jvm.MethodName) prog_10_method_2_code (2 : Nat) (Option.some Jvm.ClassFile.FieldType.int)) ∈ zTg := zt_2 (i := 183) rfl rfl
theorem zw_2_184 : (Jvm.Cond.methodLink "Residueworks$Whole" (57 : Nat) ({ cls := "java/lang/Integer", name := "numberOfLeadingZeros", desc := "(I)I" } : Jvm.MethodName)) ∈ zTg := zt_2 (i := 184) rfl rfl
theorem zw_2_185 : (Jvm.Cond.static ({ cls := "java/lang/Integer", name := "numberOfLeadingZeros", desc := "(I)I" } : Jvm.MethodName)) ∈ zTg := zt_2 (i := 185) rfl rfl
theorem zw_2_186 : (Jvm.Cond.code ({ cls := "java/lang/Integer", name := "numberOfLeadingZeros", desc := "(I)I" } : Jvm.MethodName) prog_27_method_47_code (2 : Nat) (Option.some Jvm.ClassFile.FieldType.int)) ∈ zTg := zt_2 (i := 186) rfl rfl
theorem zw_2_187 : (Jvm.Cond.constant "java/lang/Integer" (264 : Nat) (65536 : Int32)) ∈ zTg := zt_2 (i := 187) rfl rfl
theorem zw_2_188 : (Jvm.Cond.methodLink "Residueworks$Whole" (66 : Nat) ({ cls := "Residueworks$Whole", name := "lowestBit", desc := "()I" } : Jvm.MethodName)) ∈ zTg := zt_2 (i := 188) rfl rfl
theorem zw_2_189 : (Jvm.Cond.instanceMethod ({ cls := "Residueworks$Whole", name := "lowestBit", desc := "()I" } : Jvm.MethodName)) ∈ zTg := zt_2 (i := 189) rfl rfl
theorem zw_2_190 : (Jvm.Cond.selects "Residueworks$Whole" ({ cls := "Residueworks$Whole", name := "lowestBit", desc := "()I" } : Jvm.MethodName) ({ cls := "Residueworks$Whole", name := "lowestBit", desc := "()I" } : Jvm.MethodName)) ∈ zTg := zt_2 (i := 190) rfl rfl
theorem zw_2_191 : (Jvm.Cond.code ({ cls := "Residueworks$Whole", name := "lowestBit", desc := "()I" } : Jvm.MethodName) prog_10_method_15_code (2 : Nat) (Option.some Jvm.ClassFile.FieldType.int)) ∈ zTg := zt_2 (i := 191) rfl rfl
theorem zw_2_192 : (Jvm.Cond.methodLink "Residueworks$Whole" (69 : Nat) ({ cls := "java/lang/Integer", name := "numberOfTrailingZeros", desc := "(I)I" } : Jvm.MethodName)) ∈ zTg := zt_2 (i := 192) rfl rfl
theorem zw_2_193 : (Jvm.Cond.static ({ cls := "java/lang/Integer", name := "numberOfTrailingZeros", desc := "(I)I" } : Jvm.MethodName)) ∈ zTg := zt_2 (i := 193) rfl rfl
theorem zw_2_194 : (Jvm.Cond.code ({ cls := "java/lang/Integer", name := "numberOfTrailingZeros", desc := "(I)I" } : Jvm.MethodName) prog_27_method_48_code (2 : Nat) (Option.some Jvm.ClassFile.FieldType.int)) ∈ zTg := zt_2 (i := 194) rfl rfl
theorem zw_2_195 : (Jvm.Cond.constantDouble "Residueworks" (332 : Nat) (4620693217682128896 : UInt64)) ∈ zTg := zt_2 (i := 195) rfl rfl
theorem zw_2_196 : (Jvm.Cond.methodLink "ResidueworksLaw" (288 : Nat) ({ cls := "Residueworks", name := "checksum", desc := "()J" } : Jvm.MethodName)) ∈ zTg := zt_2 (i := 196) rfl rfl
theorem zw_2_197 : (Jvm.Cond.instanceMethod ({ cls := "Residueworks", name := "checksum", desc := "()J" } : Jvm.MethodName)) ∈ zTg := zt_2 (i := 197) rfl rfl
theorem zw_2_198 : (Jvm.Cond.selects "Residueworks" ({ cls := "Residueworks", name := "checksum", desc := "()J" } : Jvm.MethodName) ({ cls := "Residueworks", name := "checksum", desc := "()J" } : Jvm.MethodName)) ∈ zTg := zt_2 (i := 198) rfl rfl
theorem zw_2_199 : (Jvm.Cond.code ({ cls := "Residueworks", name := "checksum", desc := "()J" } : Jvm.MethodName) prog_1_method_41_code (4 : Nat) (Option.some Jvm.ClassFile.FieldType.long)) ∈ zTg := zt_2 (i := 199) rfl rfl
theorem zw_2_200 : (Jvm.Cond.constantLong "Residueworks" (334 : Nat) (7 : Int64)) ∈ zTg := zt_2 (i := 200) rfl rfl
theorem zw_2_201 : (Jvm.Cond.methodLink "Residueworks" (336 : Nat) ({ cls := "Residueworks", name := "registerSum", desc := "(JLResidueworks$Whole;)J" } : Jvm.MethodName)) ∈ zTg := zt_2 (i := 201) rfl rfl
theorem zw_2_202 : (Jvm.Cond.static ({ cls := "Residueworks", name := "registerSum", desc := "(JLResidueworks$Whole;)J" } : Jvm.MethodName)) ∈ zTg := zt_2 (i := 202) rfl rfl
theorem zw_2_203 : (Jvm.Cond.code ({ cls := "Residueworks", name := "registerSum", desc := "(JLResidueworks$Whole;)J" } : Jvm.MethodName) prog_1_method_50_code (6 : Nat) (Option.some Jvm.ClassFile.FieldType.long)) ∈ zTg := zt_2 (i := 203) rfl rfl
theorem zw_2_204 : (Jvm.Cond.constantLong "Residueworks" (340 : Nat) (31 : Int64)) ∈ zTg := zt_2 (i := 204) rfl rfl
theorem zw_2_205 : (Jvm.Cond.methodLink "Residueworks" (107 : Nat) ({ cls := "Residueworks$Whole", name := "window", desc := "(I)J" } : Jvm.MethodName)) ∈ zTg := zt_2 (i := 205) rfl rfl
theorem zw_2_206 : (Jvm.Cond.instanceMethod ({ cls := "Residueworks$Whole", name := "window", desc := "(I)J" } : Jvm.MethodName)) ∈ zTg := zt_2 (i := 206) rfl rfl
theorem zw_2_207 : (Jvm.Cond.selects "Residueworks$Whole" ({ cls := "Residueworks$Whole", name := "window", desc := "(I)J" } : Jvm.MethodName) ({ cls := "Residueworks$Whole", name := "window", desc := "(I)J" } : Jvm.MethodName)) ∈ zTg := zt_2 (i := 207) rfl rfl
theorem zw_2_208 : (Jvm.Cond.code ({ cls := "Residueworks$Whole", name := "window", desc := "(I)J" } : Jvm.MethodName) prog_10_method_19_code (9 : Nat) (Option.some Jvm.ClassFile.FieldType.long)) ∈ zTg := zt_2 (i := 208) rfl rfl
theorem zw_2_209 : (Jvm.Cond.methodLink "Residueworks$Whole" (77 : Nat) ({ cls := "Residueworks$Whole", name := "endlessLimb", desc := "(I)I" } : Jvm.MethodName)) ∈ zTg := zt_2 (i := 209) rfl rfl
theorem zw_2_210 : (Jvm.Cond.instanceMethod ({ cls := "Residueworks$Whole", name := "endlessLimb", desc := "(I)I" } : Jvm.MethodName)) ∈ zTg := zt_2 (i := 210) rfl rfl
theorem zw_2_211 : (Jvm.Cond.selects "Residueworks$Whole" ({ cls := "Residueworks$Whole", name := "endlessLimb", desc := "(I)I" } : Jvm.MethodName) ({ cls := "Residueworks$Whole", name := "endlessLimb", desc := "(I)I" } : Jvm.MethodName)) ∈ zTg := zt_2 (i := 211) rfl rfl
theorem zw_2_212 : (Jvm.Cond.code ({ cls := "Residueworks$Whole", name := "endlessLimb", desc := "(I)I" } : Jvm.MethodName) prog_10_method_18_code (3 : Nat) (Option.some Jvm.ClassFile.FieldType.int)) ∈ zTg := zt_2 (i := 212) rfl rfl
theorem zw_2_213 : (Jvm.Cond.constant "Residueworks$Whole" (75 : Nat) (1073741824 : Int32)) ∈ zTg := zt_2 (i := 213) rfl rfl
theorem zw_2_214 : (Jvm.Cond.constant "Residueworks$Whole" (76 : Nat) (1073741823 : Int32)) ∈ zTg := zt_2 (i := 214) rfl rfl
theorem zw_2_216 : (Jvm.Cond.instanceMethod ({ cls := "Residueworks$Text", name := "at", desc := "(I)C" } : Jvm.MethodName)) ∈ zTg := zt_2 (i := 216) rfl rfl
theorem zw_2_217 : (Jvm.Cond.selects "Residueworks$Text" ({ cls := "Residueworks$Text", name := "at", desc := "(I)C" } : Jvm.MethodName) ({ cls := "Residueworks$Text", name := "at", desc := "(I)C" } : Jvm.MethodName)) ∈ zTg := zt_2 (i := 217) rfl rfl
theorem zw_2_218 : (Jvm.Cond.code ({ cls := "Residueworks$Text", name := "at", desc := "(I)C" } : Jvm.MethodName) prog_8_method_4_code (2 : Nat) (Option.some Jvm.ClassFile.FieldType.char)) ∈ zTg := zt_2 (i := 218) rfl rfl
theorem zw_2_220 : (Jvm.Cond.instanceMethod ({ cls := "Residueworks$Row", name := "at", desc := "(I)I" } : Jvm.MethodName)) ∈ zTg := zt_2 (i := 220) rfl rfl
theorem zw_2_221 : (Jvm.Cond.selects "Residueworks$Row" ({ cls := "Residueworks$Row", name := "at", desc := "(I)I" } : Jvm.MethodName) ({ cls := "Residueworks$Row", name := "at", desc := "(I)I" } : Jvm.MethodName)) ∈ zTg := zt_2 (i := 221) rfl rfl
theorem zw_2_222 : (Jvm.Cond.code ({ cls := "Residueworks$Row", name := "at", desc := "(I)I" } : Jvm.MethodName) prog_6_method_4_code (2 : Nat) (Option.some Jvm.ClassFile.FieldType.int)) ∈ zTg := zt_2 (i := 222) rfl rfl
theorem zw_2_223 : (Jvm.Cond.methodLink "ResidueworksLaw" (149 : Nat) ({ cls := "ResidueworksLaw", name := "put", desc := "(LResidueworks;IJ[J)I" } : Jvm.MethodName)) ∈ zTg := zt_2 (i := 223) rfl rfl
theorem zw_2_224 : (Jvm.Cond.static ({ cls := "ResidueworksLaw", name := "put", desc := "(LResidueworks;IJ[J)I" } : Jvm.MethodName)) ∈ zTg := zt_2 (i := 224) rfl rfl
theorem zw_2_225 : (Jvm.Cond.codeWith ({ cls := "ResidueworksLaw", name := "put", desc := "(LResidueworks;IJ[J)I" } : Jvm.MethodName) method_3_code (6 : Nat) (Option.some Jvm.ClassFile.FieldType.int) [((0 : Nat), (11 : Nat), (14 : Nat), (13 : Nat))]) ∈ zTg := zt_2 (i := 225) rfl rfl
theorem zw_2_226 : (Jvm.Cond.classLink "ResidueworksLaw" (13 : Nat) "java/lang/IndexOutOfBoundsException") ∈ zTg := zt_2 (i := 226) rfl rfl
theorem zws_3 : Cond.selects "Residueworks$Whole" ⟨"Residueworks$Whole", "takeComplement", "(I)V"⟩ ⟨"Residueworks$Whole", "takeComplement", "(I)V"⟩ ∈ zTg := zsel (i := 3) (q := (⟨"Residueworks$Whole", "takeComplement", "(I)V"⟩, 3)) (by decide +kernel)
theorem zw_3_61 : (Jvm.Cond.laysFinal "java/lang/String" "java/lang/String" "value" "[B") ∈ zTg := zt_3 (i := 61) rfl rfl
theorem zw_3_63 : (Jvm.Cond.laysFinal "java/lang/String" "java/lang/String" "coder" "B") ∈ zTg := zt_3 (i := 63) rfl rfl
theorem zw_3_65 : (Jvm.Cond.methodLink "ResidueworksLaw" (7 : Nat) ({ cls := "Residueworks", name := "put", desc := "(IJ)I" } : Jvm.MethodName)) ∈ zTg := zt_3 (i := 65) rfl rfl
theorem zw_3_66 : (Jvm.Cond.instanceMethod ({ cls := "Residueworks", name := "put", desc := "(IJ)I" } : Jvm.MethodName)) ∈ zTg := zt_3 (i := 66) rfl rfl
theorem zw_3_67 : (Jvm.Cond.selects "Residueworks" ({ cls := "Residueworks", name := "put", desc := "(IJ)I" } : Jvm.MethodName) ({ cls := "Residueworks", name := "put", desc := "(IJ)I" } : Jvm.MethodName)) ∈ zTg := zt_3 (i := 67) rfl rfl
theorem zw_3_68 : (Jvm.Cond.code ({ cls := "Residueworks", name := "put", desc := "(IJ)I" } : Jvm.MethodName) prog_1_method_2_code (5 : Nat) (Option.some Jvm.ClassFile.FieldType.int)) ∈ zTg := zt_3 (i := 68) rfl rfl
theorem zw_3_69 : (Jvm.Cond.methodLink "Residueworks" (72 : Nat) ({ cls := "Residueworks", name := "numberOf", desc := "(I)LResidueworks$Whole;" } : Jvm.MethodName)) ∈ zTg := zt_3 (i := 69) rfl rfl
theorem zw_3_71 : (Jvm.Cond.instanceMethod ({ cls := "Residueworks", name := "numberOf", desc := "(I)LResidueworks$Whole;" } : Jvm.MethodName)) ∈ zTg := zt_3 (i := 71) rfl rfl
theorem zw_3_72 : (Jvm.Cond.code ({ cls := "Residueworks", name := "numberOf", desc := "(I)LResidueworks$Whole;" } : Jvm.MethodName) prog_1_method_43_code (2 : Nat) (Option.some (Jvm.ClassFile.FieldType.object "Residueworks$Whole"))) ∈ zTg := zt_3 (i := 72) rfl rfl
theorem zw_3_73 : (Jvm.Cond.classLink "Residueworks" (201 : Nat) "java/lang/IndexOutOfBoundsException") ∈ zTg := zt_3 (i := 73) rfl rfl
theorem zw_3_75 : (Jvm.Cond.castable "java/lang/IndexOutOfBoundsException" "java/lang/IndexOutOfBoundsException") ∈ zTn := zn_3 (i := 75) rfl rfl
theorem zw_3_86 : (Jvm.Cond.methodLink "Residueworks" (76 : Nat) ({ cls := "Residueworks$Whole", name := "becomeLong", desc := "(J)V" } : Jvm.MethodName)) ∈ zTg := zt_3 (i := 86) rfl rfl
theorem zw_3_87 : (Jvm.Cond.methodLink "ResidueworksLaw" (159 : Nat) ({ cls := "ResidueworksLaw", name := "longer", desc := "(LResidueworks;IJ[J)I" } : Jvm.MethodName)) ∈ zTg := zt_3 (i := 87) rfl rfl
theorem zw_3_88 : (Jvm.Cond.static ({ cls := "ResidueworksLaw", name := "longer", desc := "(LResidueworks;IJ[J)I" } : Jvm.MethodName)) ∈ zTg := zt_3 (i := 88) rfl rfl
theorem zw_3_89 : (Jvm.Cond.codeWith ({ cls := "ResidueworksLaw", name := "longer", desc := "(LResidueworks;IJ[J)I" } : Jvm.MethodName) method_4_code (6 : Nat) (Option.some Jvm.ClassFile.FieldType.int) [((0 : Nat), (11 : Nat), (14 : Nat), (13 : Nat)), ((0 : Nat), (11 : Nat), (18 : Nat), (18 : Nat))]) ∈ zTg := zt_3 (i := 89) rfl rfl
theorem zw_3_90 : (Jvm.Cond.classLink "ResidueworksLaw" (18 : Nat) "java/lang/IllegalStateException") ∈ zTg := zt_3 (i := 90) rfl rfl
theorem zw_3_91 : (Jvm.Cond.methodLink "ResidueworksLaw" (15 : Nat) ({ cls := "Residueworks", name := "longer", desc := "(IJ)I" } : Jvm.MethodName)) ∈ zTg := zt_3 (i := 91) rfl rfl
theorem zw_3_92 : (Jvm.Cond.instanceMethod ({ cls := "Residueworks", name := "longer", desc := "(IJ)I" } : Jvm.MethodName)) ∈ zTg := zt_3 (i := 92) rfl rfl
theorem zw_3_93 : (Jvm.Cond.selects "Residueworks" ({ cls := "Residueworks", name := "longer", desc := "(IJ)I" } : Jvm.MethodName) ({ cls := "Residueworks", name := "longer", desc := "(IJ)I" } : Jvm.MethodName)) ∈ zTg := zt_3 (i := 93) rfl rfl
theorem zw_3_94 : (Jvm.Cond.code ({ cls := "Residueworks", name := "longer", desc := "(IJ)I" } : Jvm.MethodName) prog_1_method_3_code (5 : Nat) (Option.some Jvm.ClassFile.FieldType.int)) ∈ zTg := zt_3 (i := 94) rfl rfl
theorem zw_3_95 : (Jvm.Cond.methodLink "Residueworks" (84 : Nat) ({ cls := "Residueworks$Whole", name := "becomeUnsigned", desc := "(J)V" } : Jvm.MethodName)) ∈ zTg := zt_3 (i := 95) rfl rfl
theorem zw_3_96 : (Jvm.Cond.methodLink "Residueworks" (87 : Nat) ({ cls := "Residueworks$Whole", name := "shiftUp", desc := "(LResidueworks$Whole;I)V" } : Jvm.MethodName)) ∈ zTg := zt_3 (i := 96) rfl rfl
theorem zw_3_97 : (Jvm.Cond.instanceMethod ({ cls := "Residueworks$Whole", name := "shiftUp", desc := "(LResidueworks$Whole;I)V" } : Jvm.MethodName)) ∈ zTg := zt_3 (i := 97) rfl rfl
theorem zw_3_98 : (Jvm.Cond.selects "Residueworks$Whole" ({ cls := "Residueworks$Whole", name := "shiftUp", desc := "(LResidueworks$Whole;I)V" } : Jvm.MethodName) ({ cls := "Residueworks$Whole", name := "shiftUp", desc := "(LResidueworks$Whole;I)V" } : Jvm.MethodName)) ∈ zTg := zt_3 (i := 98) rfl rfl
theorem zw_3_99 : (Jvm.Cond.code ({ cls := "Residueworks$Whole", name := "shiftUp", desc := "(LResidueworks$Whole;I)V" } : Jvm.MethodName) prog_10_method_28_code (8 : Nat) (Option.none : Option Jvm.ClassFile.FieldType)) ∈ zTg := zt_3 (i := 99) rfl rfl
theorem zw_3_100 : (Jvm.Cond.methodLink "Residueworks" (91 : Nat) ({ cls := "Residueworks$Whole", name := "sumOf", desc := "(LResidueworks$Whole;LResidueworks$Whole;)V" } : Jvm.MethodName)) ∈ zTg := zt_3 (i := 100) rfl rfl
theorem zw_3_101 : (Jvm.Cond.instanceMethod ({ cls := "Residueworks$Whole", name := "sumOf", desc := "(LResidueworks$Whole;LResidueworks$Whole;)V" } : Jvm.MethodName)) ∈ zTg := zt_3 (i := 101) rfl rfl
theorem zw_3_102 : (Jvm.Cond.selects "Residueworks$Whole" ({ cls := "Residueworks$Whole", name := "sumOf", desc := "(LResidueworks$Whole;LResidueworks$Whole;)V" } : Jvm.MethodName) ({ cls := "Residueworks$Whole", name := "sumOf", desc := "(LResidueworks$Whole;LResidueworks$Whole;)V" } : Jvm.MethodName)) ∈ zTg := zt_3 (i := 102) rfl rfl
theorem zw_3_103 : (Jvm.Cond.code ({ cls := "Residueworks$Whole", name := "sumOf", desc := "(LResidueworks$Whole;LResidueworks$Whole;)V" } : Jvm.MethodName) prog_10_method_23_code (3 : Nat) (Option.none : Option Jvm.ClassFile.FieldType)) ∈ zTg := zt_3 (i := 103) rfl rfl
theorem zw_3_104 : (Jvm.Cond.methodLink "Residueworks$Whole" (84 : Nat) ({ cls := "Residueworks$Whole", name := "join", desc := "(LResidueworks$Whole;LResidueworks$Whole;I)V" } : Jvm.MethodName)) ∈ zTg := zt_3 (i := 104) rfl rfl
theorem zw_3_106 : (Jvm.Cond.instanceMethod ({ cls := "Residueworks$Whole", name := "join", desc := "(LResidueworks$Whole;LResidueworks$Whole;I)V" } : Jvm.MethodName)) ∈ zTg := zt_3 (i := 106) rfl rfl
theorem zw_3_107 : (Jvm.Cond.code ({ cls := "Residueworks$Whole", name := "join", desc := "(LResidueworks$Whole;LResidueworks$Whole;I)V" } : Jvm.MethodName) prog_10_method_25_code (11 : Nat) (Option.none : Option Jvm.ClassFile.FieldType)) ∈ zTg := zt_3 (i := 107) rfl rfl
theorem zw_3_108 : (Jvm.Cond.methodLink "Residueworks$Whole" (88 : Nat) ({ cls := "Residueworks$Whole", name := "takeComplement", desc := "(I)V" } : Jvm.MethodName)) ∈ zTg := zt_3 (i := 108) rfl rfl
theorem zw_3_110 : (Jvm.Cond.instanceMethod ({ cls := "Residueworks$Whole", name := "takeComplement", desc := "(I)V" } : Jvm.MethodName)) ∈ zTg := zt_3 (i := 110) rfl rfl
theorem zw_3_111 : (Jvm.Cond.code ({ cls := "Residueworks$Whole", name := "takeComplement", desc := "(I)V" } : Jvm.MethodName) prog_10_method_36_code (5 : Nat) (Option.none : Option Jvm.ClassFile.FieldType)) ∈ zTg := zt_3 (i := 111) rfl rfl
theorem zw_3_112 : (Jvm.Cond.methodLink "Residueworks" (95 : Nat) ({ cls := "Residueworks", name := "keep", desc := "(LResidueworks$Whole;)I" } : Jvm.MethodName)) ∈ zTg := zt_3 (i := 112) rfl rfl
theorem zw_3_114 : (Jvm.Cond.instanceMethod ({ cls := "Residueworks", name := "keep", desc := "(LResidueworks$Whole;)I" } : Jvm.MethodName)) ∈ zTg := zt_3 (i := 114) rfl rfl
theorem zw_3_115 : (Jvm.Cond.code ({ cls := "Residueworks", name := "keep", desc := "(LResidueworks$Whole;)I" } : Jvm.MethodName) prog_1_method_46_code (3 : Nat) (Option.some Jvm.ClassFile.FieldType.int)) ∈ zTg := zt_3 (i := 115) rfl rfl
theorem zw_3_118 : (Jvm.Cond.castable "java/lang/IllegalStateException" "java/lang/IllegalStateException") ∈ zTn := zn_3 (i := 118) rfl rfl
theorem zw_3_132 : (Jvm.Cond.methodLink "Residueworks" (99 : Nat) ({ cls := "Residueworks$Whole", name := "become", desc := "(LResidueworks$Whole;)V" } : Jvm.MethodName)) ∈ zTg := zt_3 (i := 132) rfl rfl
theorem zw_3_133 : (Jvm.Cond.instanceMethod ({ cls := "Residueworks$Whole", name := "become", desc := "(LResidueworks$Whole;)V" } : Jvm.MethodName)) ∈ zTg := zt_3 (i := 133) rfl rfl
theorem zw_3_134 : (Jvm.Cond.selects "Residueworks$Whole" ({ cls := "Residueworks$Whole", name := "become", desc := "(LResidueworks$Whole;)V" } : Jvm.MethodName) ({ cls := "Residueworks$Whole", name := "become", desc := "(LResidueworks$Whole;)V" } : Jvm.MethodName)) ∈ zTg := zt_3 (i := 134) rfl rfl
theorem zw_3_135 : (Jvm.Cond.code ({ cls := "Residueworks$Whole", name := "become", desc := "(LResidueworks$Whole;)V" } : Jvm.MethodName) prog_10_method_5_code (2 : Nat) (Option.none : Option Jvm.ClassFile.FieldType)) ∈ zTg := zt_3 (i := 135) rfl rfl
theorem zw_3_136 : (Jvm.Cond.methodLink "Residueworks$Whole" (20 : Nat) ({ cls := "java/lang/System", name := "arraycopy", desc := "(Ljava/lang/Object;ILjava/lang/Object;II)V" } : Jvm.MethodName)) ∈ zTg := zt_3 (i := 136) rfl rfl
theorem zw_3_137 : (Jvm.Cond.static ({ cls := "java/lang/System", name := "arraycopy", desc := "(Ljava/lang/Object;ILjava/lang/Object;II)V" } : Jvm.MethodName)) ∈ zTg := zt_3 (i := 137) rfl rfl
theorem zw_3_138 : (Jvm.Cond.native ({ cls := "java/lang/System", name := "arraycopy", desc := "(Ljava/lang/Object;ILjava/lang/Object;II)V" } : Jvm.MethodName)) ∈ zTg := zt_3 (i := 138) rfl rfl
theorem zw_3_139 : (Jvm.Cond.methodLink "ResidueworksLaw" (162 : Nat) ({ cls := "ResidueworksLaw", name := "copy", desc := "(LResidueworks;II[J)I" } : Jvm.MethodName)) ∈ zTg := zt_3 (i := 139) rfl rfl
theorem zw_3_140 : (Jvm.Cond.static ({ cls := "ResidueworksLaw", name := "copy", desc := "(LResidueworks;II[J)I" } : Jvm.MethodName)) ∈ zTg := zt_3 (i := 140) rfl rfl
theorem zw_3_141 : (Jvm.Cond.codeWith ({ cls := "ResidueworksLaw", name := "copy", desc := "(LResidueworks;II[J)I" } : Jvm.MethodName) method_5_code (5 : Nat) (Option.some Jvm.ClassFile.FieldType.int) [((0 : Nat), (10 : Nat), (13 : Nat), (13 : Nat))]) ∈ zTg := zt_3 (i := 141) rfl rfl
theorem zw_3_142 : (Jvm.Cond.methodLink "ResidueworksLaw" (20 : Nat) ({ cls := "Residueworks", name := "copy", desc := "(II)I" } : Jvm.MethodName)) ∈ zTg := zt_3 (i := 142) rfl rfl
theorem zw_3_143 : (Jvm.Cond.instanceMethod ({ cls := "Residueworks", name := "copy", desc := "(II)I" } : Jvm.MethodName)) ∈ zTg := zt_3 (i := 143) rfl rfl
theorem zw_3_144 : (Jvm.Cond.selects "Residueworks" ({ cls := "Residueworks", name := "copy", desc := "(II)I" } : Jvm.MethodName) ({ cls := "Residueworks", name := "copy", desc := "(II)I" } : Jvm.MethodName)) ∈ zTg := zt_3 (i := 144) rfl rfl
theorem zw_3_145 : (Jvm.Cond.code ({ cls := "Residueworks", name := "copy", desc := "(II)I" } : Jvm.MethodName) prog_1_method_4_code (4 : Nat) (Option.some Jvm.ClassFile.FieldType.int)) ∈ zTg := zt_3 (i := 145) rfl rfl
theorem zw_3_146 : (Jvm.Cond.methodLink "ResidueworksLaw" (166 : Nat) ({ cls := "ResidueworksLaw", name := "part", desc := "(LResidueworks;II[J)I" } : Jvm.MethodName)) ∈ zTg := zt_3 (i := 146) rfl rfl
theorem zw_3_147 : (Jvm.Cond.static ({ cls := "ResidueworksLaw", name := "part", desc := "(LResidueworks;II[J)I" } : Jvm.MethodName)) ∈ zTg := zt_3 (i := 147) rfl rfl
theorem zw_3_148 : (Jvm.Cond.codeWith ({ cls := "ResidueworksLaw", name := "part", desc := "(LResidueworks;II[J)I" } : Jvm.MethodName) method_6_code (5 : Nat) (Option.some Jvm.ClassFile.FieldType.int) [((0 : Nat), (9 : Nat), (12 : Nat), (13 : Nat)), ((0 : Nat), (9 : Nat), (16 : Nat), (28 : Nat))]) ∈ zTg := zt_3 (i := 148) rfl rfl
theorem zw_3_149 : (Jvm.Cond.classLink "ResidueworksLaw" (28 : Nat) "java/lang/IllegalArgumentException") ∈ zTg := zt_3 (i := 149) rfl rfl
theorem zw_3_150 : (Jvm.Cond.methodLink "ResidueworksLaw" (24 : Nat) ({ cls := "Residueworks", name := "part", desc := "(II)J" } : Jvm.MethodName)) ∈ zTg := zt_3 (i := 150) rfl rfl
theorem zw_3_151 : (Jvm.Cond.instanceMethod ({ cls := "Residueworks", name := "part", desc := "(II)J" } : Jvm.MethodName)) ∈ zTg := zt_3 (i := 151) rfl rfl
theorem zw_3_152 : (Jvm.Cond.selects "Residueworks" ({ cls := "Residueworks", name := "part", desc := "(II)J" } : Jvm.MethodName) ({ cls := "Residueworks", name := "part", desc := "(II)J" } : Jvm.MethodName)) ∈ zTg := zt_3 (i := 152) rfl rfl
theorem zw_3_153 : (Jvm.Cond.code ({ cls := "Residueworks", name := "part", desc := "(II)J" } : Jvm.MethodName) prog_1_method_5_code (4 : Nat) (Option.some Jvm.ClassFile.FieldType.long)) ∈ zTg := zt_3 (i := 153) rfl rfl
theorem zw_3_154 : (Jvm.Cond.methodLink "Residueworks" (103 : Nat) ({ cls := "Residueworks", name := "needRange", desc := "(III)V" } : Jvm.MethodName)) ∈ zTg := zt_3 (i := 154) rfl rfl
theorem zw_3_156 : (Jvm.Cond.instanceMethod ({ cls := "Residueworks", name := "needRange", desc := "(III)V" } : Jvm.MethodName)) ∈ zTg := zt_3 (i := 156) rfl rfl
theorem zw_3_157 : (Jvm.Cond.code ({ cls := "Residueworks", name := "needRange", desc := "(III)V" } : Jvm.MethodName) prog_1_method_44_code (4 : Nat) (Option.none : Option Jvm.ClassFile.FieldType)) ∈ zTg := zt_3 (i := 157) rfl rfl
theorem zw_3_158 : (Jvm.Cond.classLink "Residueworks" (121 : Nat) "java/lang/IllegalArgumentException") ∈ zTg := zt_3 (i := 158) rfl rfl
theorem zw_3_160 : (Jvm.Cond.castable "java/lang/IllegalArgumentException" "java/lang/IllegalArgumentException") ∈ zTn := zn_3 (i := 160) rfl rfl
theorem zw_3_174 : (Jvm.Cond.methodLink "ResidueworksLaw" (169 : Nat) ({ cls := "ResidueworksLaw", name := "tells", desc := "(LResidueworks;IC[J)I" } : Jvm.MethodName)) ∈ zTg := zt_3 (i := 174) rfl rfl
theorem zw_3_175 : (Jvm.Cond.static ({ cls := "ResidueworksLaw", name := "tells", desc := "(LResidueworks;IC[J)I" } : Jvm.MethodName)) ∈ zTg := zt_3 (i := 175) rfl rfl
theorem zw_3_176 : (Jvm.Cond.codeWith ({ cls := "ResidueworksLaw", name := "tells", desc := "(LResidueworks;IC[J)I" } : Jvm.MethodName) method_7_code (5 : Nat) (Option.some Jvm.ClassFile.FieldType.int) [((0 : Nat), (10 : Nat), (13 : Nat), (13 : Nat)), ((0 : Nat), (10 : Nat), (17 : Nat), (28 : Nat))]) ∈ zTg := zt_3 (i := 176) rfl rfl
theorem zw_3_177 : (Jvm.Cond.methodLink "ResidueworksLaw" (30 : Nat) ({ cls := "Residueworks", name := "tells", desc := "(IC)I" } : Jvm.MethodName)) ∈ zTg := zt_3 (i := 177) rfl rfl
theorem zw_3_178 : (Jvm.Cond.instanceMethod ({ cls := "Residueworks", name := "tells", desc := "(IC)I" } : Jvm.MethodName)) ∈ zTg := zt_3 (i := 178) rfl rfl
theorem zw_3_179 : (Jvm.Cond.selects "Residueworks" ({ cls := "Residueworks", name := "tells", desc := "(IC)I" } : Jvm.MethodName) ({ cls := "Residueworks", name := "tells", desc := "(IC)I" } : Jvm.MethodName)) ∈ zTg := zt_3 (i := 179) rfl rfl
theorem zw_3_180 : (Jvm.Cond.code ({ cls := "Residueworks", name := "tells", desc := "(IC)I" } : Jvm.MethodName) prog_1_method_6_code (4 : Nat) (Option.some Jvm.ClassFile.FieldType.int)) ∈ zTg := zt_3 (i := 180) rfl rfl
theorem zw_3_181 : (Jvm.Cond.methodLink "Residueworks" (115 : Nat) ({ cls := "Residueworks$Whole", name := "unlikeBits", desc := "()I" } : Jvm.MethodName)) ∈ zTg := zt_3 (i := 181) rfl rfl
theorem zw_3_182 : (Jvm.Cond.instanceMethod ({ cls := "Residueworks$Whole", name := "unlikeBits", desc := "()I" } : Jvm.MethodName)) ∈ zTg := zt_3 (i := 182) rfl rfl
theorem zw_3_183 : (Jvm.Cond.selects "Residueworks$Whole" ({ cls := "Residueworks$Whole", name := "unlikeBits", desc := "()I" } : Jvm.MethodName) ({ cls := "Residueworks$Whole", name := "unlikeBits", desc := "()I" } : Jvm.MethodName)) ∈ zTg := zt_3 (i := 183) rfl rfl
theorem zw_3_184 : (Jvm.Cond.code ({ cls := "Residueworks$Whole", name := "unlikeBits", desc := "()I" } : Jvm.MethodName) prog_10_method_16_code (3 : Nat) (Option.some Jvm.ClassFile.FieldType.int)) ∈ zTg := zt_3 (i := 184) rfl rfl
theorem zw_3_191 : (Jvm.Cond.methodLink "Residueworks" (118 : Nat) ({ cls := "Residueworks$Whole", name := "lowestBit", desc := "()I" } : Jvm.MethodName)) ∈ zTg := zt_3 (i := 191) rfl rfl
theorem zw_3_193 : (Jvm.Cond.methodLink "ResidueworksLaw" (173 : Nat) ({ cls := "ResidueworksLaw", name := "exact", desc := "(LResidueworks;I[J)I" } : Jvm.MethodName)) ∈ zTg := zt_3 (i := 193) rfl rfl
theorem zw_3_194 : (Jvm.Cond.static ({ cls := "ResidueworksLaw", name := "exact", desc := "(LResidueworks;I[J)I" } : Jvm.MethodName)) ∈ zTg := zt_3 (i := 194) rfl rfl
theorem zw_3_195 : (Jvm.Cond.codeWith ({ cls := "ResidueworksLaw", name := "exact", desc := "(LResidueworks;I[J)I" } : Jvm.MethodName) method_8_code (4 : Nat) (Option.some Jvm.ClassFile.FieldType.int) [((0 : Nat), (9 : Nat), (12 : Nat), (13 : Nat)), ((0 : Nat), (9 : Nat), (15 : Nat), (38 : Nat))]) ∈ zTg := zt_3 (i := 195) rfl rfl
theorem zw_3_196 : (Jvm.Cond.classLink "ResidueworksLaw" (38 : Nat) "java/lang/ArithmeticException") ∈ zTg := zt_3 (i := 196) rfl rfl
theorem zw_3_208 : (Jvm.Cond.castable "java/lang/ArithmeticException" "java/lang/ArithmeticException") ∈ zTn := zn_3 (i := 208) rfl rfl
theorem zw_3_210 : (Jvm.Cond.methodLink "ResidueworksLaw" (34 : Nat) ({ cls := "Residueworks", name := "exact", desc := "(I)I" } : Jvm.MethodName)) ∈ zTg := zt_3 (i := 210) rfl rfl
theorem zw_3_211 : (Jvm.Cond.instanceMethod ({ cls := "Residueworks", name := "exact", desc := "(I)I" } : Jvm.MethodName)) ∈ zTg := zt_3 (i := 211) rfl rfl
theorem zw_3_212 : (Jvm.Cond.selects "Residueworks" ({ cls := "Residueworks", name := "exact", desc := "(I)I" } : Jvm.MethodName) ({ cls := "Residueworks", name := "exact", desc := "(I)I" } : Jvm.MethodName)) ∈ zTg := zt_3 (i := 212) rfl rfl
theorem zw_3_213 : (Jvm.Cond.code ({ cls := "Residueworks", name := "exact", desc := "(I)I" } : Jvm.MethodName) prog_1_method_7_code (3 : Nat) (Option.some Jvm.ClassFile.FieldType.int)) ∈ zTg := zt_3 (i := 213) rfl rfl
theorem zw_3_214 : (Jvm.Cond.classLink "Residueworks" (128 : Nat) "java/lang/ArithmeticException") ∈ zTg := zt_3 (i := 214) rfl rfl
theorem zw_3_217 : (Jvm.Cond.methodLink "ResidueworksLaw" (177 : Nat) ({ cls := "ResidueworksLaw", name := "compare", desc := "(LResidueworks;II[J)I" } : Jvm.MethodName)) ∈ zTg := zt_3 (i := 217) rfl rfl
theorem zw_3_218 : (Jvm.Cond.static ({ cls := "ResidueworksLaw", name := "compare", desc := "(LResidueworks;II[J)I" } : Jvm.MethodName)) ∈ zTg := zt_3 (i := 218) rfl rfl
theorem zw_3_219 : (Jvm.Cond.codeWith ({ cls := "ResidueworksLaw", name := "compare", desc := "(LResidueworks;II[J)I" } : Jvm.MethodName) method_9_code (5 : Nat) (Option.some Jvm.ClassFile.FieldType.int) [((0 : Nat), (10 : Nat), (13 : Nat), (13 : Nat))]) ∈ zTg := zt_3 (i := 219) rfl rfl
theorem zw_3_220 : (Jvm.Cond.methodLink "ResidueworksLaw" (40 : Nat) ({ cls := "Residueworks", name := "compare", desc := "(II)I" } : Jvm.MethodName)) ∈ zTg := zt_3 (i := 220) rfl rfl
theorem zw_3_221 : (Jvm.Cond.instanceMethod ({ cls := "Residueworks", name := "compare", desc := "(II)I" } : Jvm.MethodName)) ∈ zTg := zt_3 (i := 221) rfl rfl
theorem zw_3_222 : (Jvm.Cond.selects "Residueworks" ({ cls := "Residueworks", name := "compare", desc := "(II)I" } : Jvm.MethodName) ({ cls := "Residueworks", name := "compare", desc := "(II)I" } : Jvm.MethodName)) ∈ zTg := zt_3 (i := 222) rfl rfl
theorem zw_3_223 : (Jvm.Cond.code ({ cls := "Residueworks", name := "compare", desc := "(II)I" } : Jvm.MethodName) prog_1_method_8_code (4 : Nat) (Option.some Jvm.ClassFile.FieldType.int)) ∈ zTg := zt_3 (i := 223) rfl rfl
theorem zw_3_224 : (Jvm.Cond.methodLink "Residueworks" (133 : Nat) ({ cls := "Residueworks$Whole", name := "against", desc := "(LResidueworks$Whole;)I" } : Jvm.MethodName)) ∈ zTg := zt_3 (i := 224) rfl rfl
theorem zw_3_225 : (Jvm.Cond.instanceMethod ({ cls := "Residueworks$Whole", name := "against", desc := "(LResidueworks$Whole;)I" } : Jvm.MethodName)) ∈ zTg := zt_3 (i := 225) rfl rfl
theorem zw_3_226 : (Jvm.Cond.selects "Residueworks$Whole" ({ cls := "Residueworks$Whole", name := "against", desc := "(LResidueworks$Whole;)I" } : Jvm.MethodName) ({ cls := "Residueworks$Whole", name := "against", desc := "(LResidueworks$Whole;)I" } : Jvm.MethodName)) ∈ zTg := zt_3 (i := 226) rfl rfl
theorem zw_3_227 : (Jvm.Cond.code ({ cls := "Residueworks$Whole", name := "against", desc := "(LResidueworks$Whole;)I" } : Jvm.MethodName) prog_10_method_21_code (2 : Nat) (Option.some Jvm.ClassFile.FieldType.int)) ∈ zTg := zt_3 (i := 227) rfl rfl
theorem zw_3_228 : (Jvm.Cond.methodLink "Residueworks$Whole" (80 : Nat) ({ cls := "Residueworks$Whole", name := "compareAmount", desc := "(LResidueworks$Whole;)I" } : Jvm.MethodName)) ∈ zTg := zt_3 (i := 228) rfl rfl
theorem zw_3_229 : (Jvm.Cond.instanceMethod ({ cls := "Residueworks$Whole", name := "compareAmount", desc := "(LResidueworks$Whole;)I" } : Jvm.MethodName)) ∈ zTg := zt_3 (i := 229) rfl rfl
theorem zw_3_230 : (Jvm.Cond.selects "Residueworks$Whole" ({ cls := "Residueworks$Whole", name := "compareAmount", desc := "(LResidueworks$Whole;)I" } : Jvm.MethodName) ({ cls := "Residueworks$Whole", name := "compareAmount", desc := "(LResidueworks$Whole;)I" } : Jvm.MethodName)) ∈ zTg := zt_3 (i := 230) rfl rfl
theorem zw_3_231 : (Jvm.Cond.code ({ cls := "Residueworks$Whole", name := "compareAmount", desc := "(LResidueworks$Whole;)I" } : Jvm.MethodName) prog_10_method_20_code (3 : Nat) (Option.some Jvm.ClassFile.FieldType.int)) ∈ zTg := zt_3 (i := 231) rfl rfl
theorem zw_3_232 : (Jvm.Cond.methodLink "ResidueworksLaw" (180 : Nat) ({ cls := "ResidueworksLaw", name := "does", desc := "(LResidueworks;CIII[J)I" } : Jvm.MethodName)) ∈ zTg := zt_3 (i := 232) rfl rfl
theorem zw_3_233 : (Jvm.Cond.static ({ cls := "ResidueworksLaw", name := "does", desc := "(LResidueworks;CIII[J)I" } : Jvm.MethodName)) ∈ zTg := zt_3 (i := 233) rfl rfl
theorem zw_3_234 : (Jvm.Cond.codeWith ({ cls := "ResidueworksLaw", name := "does", desc := "(LResidueworks;CIII[J)I" } : Jvm.MethodName) method_10_code (7 : Nat) (Option.some Jvm.ClassFile.FieldType.int) [((0 : Nat), (14 : Nat), (17 : Nat), (13 : Nat)), ((0 : Nat), (14 : Nat), (21 : Nat), (28 : Nat)), ((0 : Nat), (14 : Nat), (25 : Nat), (38 : Nat)), ((0 : Nat), (14 : Nat), (29 : Nat), (18 : Nat))]) ∈ zTg := zt_3 (i := 234) rfl rfl
theorem zw_3_235 : (Jvm.Cond.methodLink "ResidueworksLaw" (43 : Nat) ({ cls := "Residueworks", name := "does", desc := "(CIII)I" } : Jvm.MethodName)) ∈ zTg := zt_3 (i := 235) rfl rfl
theorem zw_3_236 : (Jvm.Cond.instanceMethod ({ cls := "Residueworks", name := "does", desc := "(CIII)I" } : Jvm.MethodName)) ∈ zTg := zt_3 (i := 236) rfl rfl
theorem zw_3_237 : (Jvm.Cond.selects "Residueworks" ({ cls := "Residueworks", name := "does", desc := "(CIII)I" } : Jvm.MethodName) ({ cls := "Residueworks", name := "does", desc := "(CIII)I" } : Jvm.MethodName)) ∈ zTg := zt_3 (i := 237) rfl rfl
theorem zw_3_238 : (Jvm.Cond.code ({ cls := "Residueworks", name := "does", desc := "(CIII)I" } : Jvm.MethodName) prog_1_method_9_code (8 : Nat) (Option.some Jvm.ClassFile.FieldType.int)) ∈ zTg := zt_3 (i := 238) rfl rfl
theorem zws_4 : Cond.selects "Residueworks" ⟨"Residueworks", "keep", "(LResidueworks$Whole;)I"⟩ ⟨"Residueworks", "keep", "(LResidueworks$Whole;)I"⟩ ∈ zTg := zsel (i := 4) (q := (⟨"Residueworks", "keep", "(LResidueworks$Whole;)I"⟩, 10)) (by decide +kernel)
theorem zw_4_1 : (Jvm.Cond.methodLink "Residueworks" (140 : Nat) ({ cls := "Residueworks", name := "reckonOfTwo", desc := "(CLResidueworks$Whole;LResidueworks$Whole;)Z" } : Jvm.MethodName)) ∈ zTg := zt_4 (i := 1) rfl rfl
theorem zw_4_3 : (Jvm.Cond.instanceMethod ({ cls := "Residueworks", name := "reckonOfTwo", desc := "(CLResidueworks$Whole;LResidueworks$Whole;)Z" } : Jvm.MethodName)) ∈ zTg := zt_4 (i := 3) rfl rfl
theorem zw_4_4 : (Jvm.Cond.code ({ cls := "Residueworks", name := "reckonOfTwo", desc := "(CLResidueworks$Whole;LResidueworks$Whole;)Z" } : Jvm.MethodName) prog_1_method_47_code (4 : Nat) (Option.some Jvm.ClassFile.FieldType.boolean)) ∈ zTg := zt_4 (i := 4) rfl rfl
theorem zw_4_5 : (Jvm.Cond.methodLink "Residueworks" (381 : Nat) ({ cls := "Residueworks$Whole", name := "differenceOf", desc := "(LResidueworks$Whole;LResidueworks$Whole;)V" } : Jvm.MethodName)) ∈ zTg := zt_4 (i := 5) rfl rfl
theorem zw_4_6 : (Jvm.Cond.instanceMethod ({ cls := "Residueworks$Whole", name := "differenceOf", desc := "(LResidueworks$Whole;LResidueworks$Whole;)V" } : Jvm.MethodName)) ∈ zTg := zt_4 (i := 6) rfl rfl
theorem zw_4_7 : (Jvm.Cond.selects "Residueworks$Whole" ({ cls := "Residueworks$Whole", name := "differenceOf", desc := "(LResidueworks$Whole;LResidueworks$Whole;)V" } : Jvm.MethodName) ({ cls := "Residueworks$Whole", name := "differenceOf", desc := "(LResidueworks$Whole;LResidueworks$Whole;)V" } : Jvm.MethodName)) ∈ zTg := zt_4 (i := 7) rfl rfl
theorem zw_4_8 : (Jvm.Cond.code ({ cls := "Residueworks$Whole", name := "differenceOf", desc := "(LResidueworks$Whole;LResidueworks$Whole;)V" } : Jvm.MethodName) prog_10_method_24_code (3 : Nat) (Option.none : Option Jvm.ClassFile.FieldType)) ∈ zTg := zt_4 (i := 8) rfl rfl
theorem zw_4_9 : (Jvm.Cond.methodLink "Residueworks" (384 : Nat) ({ cls := "Residueworks$Whole", name := "productOf", desc := "(LResidueworks$Whole;LResidueworks$Whole;)V" } : Jvm.MethodName)) ∈ zTg := zt_4 (i := 9) rfl rfl
theorem zw_4_10 : (Jvm.Cond.instanceMethod ({ cls := "Residueworks$Whole", name := "productOf", desc := "(LResidueworks$Whole;LResidueworks$Whole;)V" } : Jvm.MethodName)) ∈ zTg := zt_4 (i := 10) rfl rfl
theorem zw_4_11 : (Jvm.Cond.selects "Residueworks$Whole" ({ cls := "Residueworks$Whole", name := "productOf", desc := "(LResidueworks$Whole;LResidueworks$Whole;)V" } : Jvm.MethodName) ({ cls := "Residueworks$Whole", name := "productOf", desc := "(LResidueworks$Whole;LResidueworks$Whole;)V" } : Jvm.MethodName)) ∈ zTg := zt_4 (i := 11) rfl rfl
theorem zw_4_12 : (Jvm.Cond.code ({ cls := "Residueworks$Whole", name := "productOf", desc := "(LResidueworks$Whole;LResidueworks$Whole;)V" } : Jvm.MethodName) prog_10_method_26_code (4 : Nat) (Option.none : Option Jvm.ClassFile.FieldType)) ∈ zTg := zt_4 (i := 12) rfl rfl
theorem zw_4_13 : (Jvm.Cond.methodLink "Residueworks$Whole" (43 : Nat) ({ cls := "java/util/Arrays", name := "fill", desc := "([II)V" } : Jvm.MethodName)) ∈ zTg := zt_4 (i := 13) rfl rfl
theorem zw_4_14 : (Jvm.Cond.static ({ cls := "java/util/Arrays", name := "fill", desc := "([II)V" } : Jvm.MethodName)) ∈ zTg := zt_4 (i := 14) rfl rfl
theorem zw_4_15 : (Jvm.Cond.code ({ cls := "java/util/Arrays", name := "fill", desc := "([II)V" } : Jvm.MethodName) prog_46_method_103_code (4 : Nat) (Option.none : Option Jvm.ClassFile.FieldType)) ∈ zTg := zt_4 (i := 15) rfl rfl
theorem zw_4_16 : (Jvm.Cond.methodLink "Residueworks$Whole" (92 : Nat) ({ cls := "Residueworks$Whole", name := "addTimes", desc := "(LResidueworks$Whole;JI)V" } : Jvm.MethodName)) ∈ zTg := zt_4 (i := 16) rfl rfl
theorem zw_4_18 : (Jvm.Cond.instanceMethod ({ cls := "Residueworks$Whole", name := "addTimes", desc := "(LResidueworks$Whole;JI)V" } : Jvm.MethodName)) ∈ zTg := zt_4 (i := 18) rfl rfl
theorem zw_4_19 : (Jvm.Cond.code ({ cls := "Residueworks$Whole", name := "addTimes", desc := "(LResidueworks$Whole;JI)V" } : Jvm.MethodName) prog_10_method_27_code (12 : Nat) (Option.none : Option Jvm.ClassFile.FieldType)) ∈ zTg := zt_4 (i := 19) rfl rfl
theorem zw_4_20 : (Jvm.Cond.methodLink "Residueworks" (387 : Nat) ({ cls := "Residueworks", name := "divided", desc := "(CLResidueworks$Whole;LResidueworks$Whole;)LResidueworks$Whole;" } : Jvm.MethodName)) ∈ zTg := zt_4 (i := 20) rfl rfl
theorem zw_4_22 : (Jvm.Cond.instanceMethod ({ cls := "Residueworks", name := "divided", desc := "(CLResidueworks$Whole;LResidueworks$Whole;)LResidueworks$Whole;" } : Jvm.MethodName)) ∈ zTg := zt_4 (i := 22) rfl rfl
theorem zw_4_23 : (Jvm.Cond.code ({ cls := "Residueworks", name := "divided", desc := "(CLResidueworks$Whole;LResidueworks$Whole;)LResidueworks$Whole;" } : Jvm.MethodName) prog_1_method_48_code (4 : Nat) (Option.some (Jvm.ClassFile.FieldType.object "Residueworks$Whole"))) ∈ zTg := zt_4 (i := 23) rfl rfl
theorem zw_4_25 : (Jvm.Cond.instanceMethod ({ cls := "Residueworks$Division", name := "divide", desc := "(LResidueworks$Whole;LResidueworks$Whole;)V" } : Jvm.MethodName)) ∈ zTg := zt_4 (i := 25) rfl rfl
theorem zw_4_26 : (Jvm.Cond.selects "Residueworks$Division" ({ cls := "Residueworks$Division", name := "divide", desc := "(LResidueworks$Whole;LResidueworks$Whole;)V" } : Jvm.MethodName) ({ cls := "Residueworks$Division", name := "divide", desc := "(LResidueworks$Whole;LResidueworks$Whole;)V" } : Jvm.MethodName)) ∈ zTg := zt_4 (i := 26) rfl rfl
theorem zw_4_27 : (Jvm.Cond.code ({ cls := "Residueworks$Division", name := "divide", desc := "(LResidueworks$Whole;LResidueworks$Whole;)V" } : Jvm.MethodName) prog_3_method_2_code (10 : Nat) (Option.none : Option Jvm.ClassFile.FieldType)) ∈ zTg := zt_4 (i := 27) rfl rfl
theorem zw_4_28 : (Jvm.Cond.methodLink "Residueworks$Division" (29 : Nat) ({ cls := "Residueworks$Whole", name := "compareAmount", desc := "(LResidueworks$Whole;)I" } : Jvm.MethodName)) ∈ zTg := zt_4 (i := 28) rfl rfl
theorem zw_4_29 : (Jvm.Cond.methodLink "Residueworks$Division" (33 : Nat) ({ cls := "Residueworks$Whole", name := "become", desc := "(LResidueworks$Whole;)V" } : Jvm.MethodName)) ∈ zTg := zt_4 (i := 29) rfl rfl
theorem zw_4_30 : (Jvm.Cond.methodLink "Residueworks$Division" (37 : Nat) ({ cls := "Residueworks$Whole", name := "settle", desc := "(II)V" } : Jvm.MethodName)) ∈ zTg := zt_4 (i := 30) rfl rfl
theorem zw_4_31 : (Jvm.Cond.methodLink "Residueworks$Division" (41 : Nat) ({ cls := "Residueworks$Whole", name := "limb", desc := "(I)I" } : Jvm.MethodName)) ∈ zTg := zt_4 (i := 31) rfl rfl
theorem zw_4_32 : (Jvm.Cond.methodLink "Residueworks$Division" (45 : Nat) ({ cls := "java/lang/Integer", name := "numberOfLeadingZeros", desc := "(I)I" } : Jvm.MethodName)) ∈ zTg := zt_4 (i := 32) rfl rfl
theorem zw_4_33 : (Jvm.Cond.methodLink "Residueworks$Division" (50 : Nat) ({ cls := "Residueworks$Whole", name := "shiftUp", desc := "(LResidueworks$Whole;I)V" } : Jvm.MethodName)) ∈ zTg := zt_4 (i := 33) rfl rfl
theorem zw_4_34 : (Jvm.Cond.methodLink "Residueworks$Division" (54 : Nat) ({ cls := "Residueworks$Whole", name := "setLimb", desc := "(II)V" } : Jvm.MethodName)) ∈ zTg := zt_4 (i := 34) rfl rfl
theorem zw_4_35 : (Jvm.Cond.methodLink "Residueworks$Division" (57 : Nat) ({ cls := "Residueworks$Division", name := "guessDigit", desc := "(I)J" } : Jvm.MethodName)) ∈ zTg := zt_4 (i := 35) rfl rfl
theorem zw_4_37 : (Jvm.Cond.instanceMethod ({ cls := "Residueworks$Division", name := "guessDigit", desc := "(I)J" } : Jvm.MethodName)) ∈ zTg := zt_4 (i := 37) rfl rfl
theorem zw_4_38 : (Jvm.Cond.code ({ cls := "Residueworks$Division", name := "guessDigit", desc := "(I)J" } : Jvm.MethodName) prog_3_method_4_code (15 : Nat) (Option.some Jvm.ClassFile.FieldType.long)) ∈ zTg := zt_4 (i := 38) rfl rfl
theorem zw_4_39 : (Jvm.Cond.constantLong "Residueworks$Division" (79 : Nat) (1073741823 : Int64)) ∈ zTg := zt_4 (i := 39) rfl rfl
theorem zw_4_40 : (Jvm.Cond.methodLink "Residueworks$Division" (61 : Nat) ({ cls := "Residueworks$Division", name := "subtractTimes", desc := "(JI)Z" } : Jvm.MethodName)) ∈ zTg := zt_4 (i := 40) rfl rfl
theorem zw_4_42 : (Jvm.Cond.instanceMethod ({ cls := "Residueworks$Division", name := "subtractTimes", desc := "(JI)Z" } : Jvm.MethodName)) ∈ zTg := zt_4 (i := 42) rfl rfl
theorem zw_4_43 : (Jvm.Cond.code ({ cls := "Residueworks$Division", name := "subtractTimes", desc := "(JI)Z" } : Jvm.MethodName) prog_3_method_5_code (12 : Nat) (Option.some Jvm.ClassFile.FieldType.boolean)) ∈ zTg := zt_4 (i := 43) rfl rfl
theorem zw_4_49 : (Jvm.Cond.methodLink "Residueworks$Division" (69 : Nat) ({ cls := "Residueworks$Whole", name := "shiftDown", desc := "(LResidueworks$Whole;I)V" } : Jvm.MethodName)) ∈ zTg := zt_4 (i := 49) rfl rfl
theorem zw_4_50 : (Jvm.Cond.instanceMethod ({ cls := "Residueworks$Whole", name := "shiftDown", desc := "(LResidueworks$Whole;I)V" } : Jvm.MethodName)) ∈ zTg := zt_4 (i := 50) rfl rfl
theorem zw_4_51 : (Jvm.Cond.selects "Residueworks$Whole" ({ cls := "Residueworks$Whole", name := "shiftDown", desc := "(LResidueworks$Whole;I)V" } : Jvm.MethodName) ({ cls := "Residueworks$Whole", name := "shiftDown", desc := "(LResidueworks$Whole;I)V" } : Jvm.MethodName)) ∈ zTg := zt_4 (i := 51) rfl rfl
theorem zw_4_52 : (Jvm.Cond.code ({ cls := "Residueworks$Whole", name := "shiftDown", desc := "(LResidueworks$Whole;I)V" } : Jvm.MethodName) prog_10_method_29_code (8 : Nat) (Option.none : Option Jvm.ClassFile.FieldType)) ∈ zTg := zt_4 (i := 52) rfl rfl
theorem zw_4_54 : (Jvm.Cond.instanceMethod ({ cls := "Residueworks$Division", name := "reduce", desc := "(LResidueworks$Whole;LResidueworks$Whole;)V" } : Jvm.MethodName)) ∈ zTg := zt_4 (i := 54) rfl rfl
theorem zw_4_55 : (Jvm.Cond.selects "Residueworks$Division" ({ cls := "Residueworks$Division", name := "reduce", desc := "(LResidueworks$Whole;LResidueworks$Whole;)V" } : Jvm.MethodName) ({ cls := "Residueworks$Division", name := "reduce", desc := "(LResidueworks$Whole;LResidueworks$Whole;)V" } : Jvm.MethodName)) ∈ zTg := zt_4 (i := 55) rfl rfl
theorem zw_4_56 : (Jvm.Cond.code ({ cls := "Residueworks$Division", name := "reduce", desc := "(LResidueworks$Whole;LResidueworks$Whole;)V" } : Jvm.MethodName) prog_3_method_3_code (3 : Nat) (Option.none : Option Jvm.ClassFile.FieldType)) ∈ zTg := zt_4 (i := 56) rfl rfl
theorem zw_4_57 : (Jvm.Cond.methodLink "Residueworks$Division" (72 : Nat) ({ cls := "Residueworks$Division", name := "divide", desc := "(LResidueworks$Whole;LResidueworks$Whole;)V" } : Jvm.MethodName)) ∈ zTg := zt_4 (i := 57) rfl rfl
theorem zw_4_59 : (Jvm.Cond.methodLink "Residueworks" (394 : Nat) ({ cls := "Residueworks$Residues", name := "measure", desc := "(LResidueworks$Whole;LResidueworks$Whole;)V" } : Jvm.MethodName)) ∈ zTg := zt_4 (i := 59) rfl rfl
theorem zw_4_60 : (Jvm.Cond.instanceMethod ({ cls := "Residueworks$Residues", name := "measure", desc := "(LResidueworks$Whole;LResidueworks$Whole;)V" } : Jvm.MethodName)) ∈ zTg := zt_4 (i := 60) rfl rfl
theorem zw_4_61 : (Jvm.Cond.selects "Residueworks$Residues" ({ cls := "Residueworks$Residues", name := "measure", desc := "(LResidueworks$Whole;LResidueworks$Whole;)V" } : Jvm.MethodName) ({ cls := "Residueworks$Residues", name := "measure", desc := "(LResidueworks$Whole;LResidueworks$Whole;)V" } : Jvm.MethodName)) ∈ zTg := zt_4 (i := 61) rfl rfl
theorem zw_4_62 : (Jvm.Cond.code ({ cls := "Residueworks$Residues", name := "measure", desc := "(LResidueworks$Whole;LResidueworks$Whole;)V" } : Jvm.MethodName) prog_4_method_5_code (7 : Nat) (Option.none : Option Jvm.ClassFile.FieldType)) ∈ zTg := zt_4 (i := 62) rfl rfl
theorem zw_4_63 : (Jvm.Cond.methodLink "Residueworks$Residues" (96 : Nat) ({ cls := "Residueworks$Whole", name := "becomeAmountOf", desc := "(LResidueworks$Whole;)V" } : Jvm.MethodName)) ∈ zTg := zt_4 (i := 63) rfl rfl
theorem zw_4_64 : (Jvm.Cond.instanceMethod ({ cls := "Residueworks$Whole", name := "becomeAmountOf", desc := "(LResidueworks$Whole;)V" } : Jvm.MethodName)) ∈ zTg := zt_4 (i := 64) rfl rfl
theorem zw_4_65 : (Jvm.Cond.selects "Residueworks$Whole" ({ cls := "Residueworks$Whole", name := "becomeAmountOf", desc := "(LResidueworks$Whole;)V" } : Jvm.MethodName) ({ cls := "Residueworks$Whole", name := "becomeAmountOf", desc := "(LResidueworks$Whole;)V" } : Jvm.MethodName)) ∈ zTg := zt_4 (i := 65) rfl rfl
theorem zw_4_66 : (Jvm.Cond.code ({ cls := "Residueworks$Whole", name := "becomeAmountOf", desc := "(LResidueworks$Whole;)V" } : Jvm.MethodName) prog_10_method_6_code (2 : Nat) (Option.none : Option Jvm.ClassFile.FieldType)) ∈ zTg := zt_4 (i := 66) rfl rfl
theorem zw_4_67 : (Jvm.Cond.methodLink "Residueworks$Whole" (26 : Nat) ({ cls := "Residueworks$Whole", name := "become", desc := "(LResidueworks$Whole;)V" } : Jvm.MethodName)) ∈ zTg := zt_4 (i := 67) rfl rfl
theorem zw_4_68 : (Jvm.Cond.methodLink "Residueworks$Residues" (65 : Nat) ({ cls := "Residueworks$Division", name := "divide", desc := "(LResidueworks$Whole;LResidueworks$Whole;)V" } : Jvm.MethodName)) ∈ zTg := zt_4 (i := 68) rfl rfl
theorem zw_4_69 : (Jvm.Cond.methodLink "Residueworks$Residues" (57 : Nat) ({ cls := "Residueworks$Whole", name := "become", desc := "(LResidueworks$Whole;)V" } : Jvm.MethodName)) ∈ zTg := zt_4 (i := 69) rfl rfl
theorem zw_4_70 : (Jvm.Cond.methodLink "Residueworks" (400 : Nat) ({ cls := "Residueworks$Residues", name := "reckonMultiple", desc := "(LResidueworks$Whole;LResidueworks$Whole;)V" } : Jvm.MethodName)) ∈ zTg := zt_4 (i := 70) rfl rfl
theorem zw_4_71 : (Jvm.Cond.instanceMethod ({ cls := "Residueworks$Residues", name := "reckonMultiple", desc := "(LResidueworks$Whole;LResidueworks$Whole;)V" } : Jvm.MethodName)) ∈ zTg := zt_4 (i := 71) rfl rfl
theorem zw_4_72 : (Jvm.Cond.selects "Residueworks$Residues" ({ cls := "Residueworks$Residues", name := "reckonMultiple", desc := "(LResidueworks$Whole;LResidueworks$Whole;)V" } : Jvm.MethodName) ({ cls := "Residueworks$Residues", name := "reckonMultiple", desc := "(LResidueworks$Whole;LResidueworks$Whole;)V" } : Jvm.MethodName)) ∈ zTg := zt_4 (i := 72) rfl rfl
theorem zw_4_73 : (Jvm.Cond.code ({ cls := "Residueworks$Residues", name := "reckonMultiple", desc := "(LResidueworks$Whole;LResidueworks$Whole;)V" } : Jvm.MethodName) prog_4_method_6_code (3 : Nat) (Option.none : Option Jvm.ClassFile.FieldType)) ∈ zTg := zt_4 (i := 73) rfl rfl
theorem zw_4_74 : (Jvm.Cond.methodLink "Residueworks$Residues" (61 : Nat) ({ cls := "Residueworks$Whole", name := "becomeLong", desc := "(J)V" } : Jvm.MethodName)) ∈ zTg := zt_4 (i := 74) rfl rfl
theorem zw_4_77 : (Jvm.Cond.methodLink "Residueworks" (164 : Nat) ({ cls := "Residueworks$Whole", name := "becomeBits", desc := "(CLResidueworks$Whole;LResidueworks$Whole;)V" } : Jvm.MethodName)) ∈ zTg := zt_4 (i := 77) rfl rfl
theorem zw_4_78 : (Jvm.Cond.instanceMethod ({ cls := "Residueworks$Whole", name := "becomeBits", desc := "(CLResidueworks$Whole;LResidueworks$Whole;)V" } : Jvm.MethodName)) ∈ zTg := zt_4 (i := 78) rfl rfl
theorem zw_4_79 : (Jvm.Cond.selects "Residueworks$Whole" ({ cls := "Residueworks$Whole", name := "becomeBits", desc := "(CLResidueworks$Whole;LResidueworks$Whole;)V" } : Jvm.MethodName) ({ cls := "Residueworks$Whole", name := "becomeBits", desc := "(CLResidueworks$Whole;LResidueworks$Whole;)V" } : Jvm.MethodName)) ∈ zTg := zt_4 (i := 79) rfl rfl
theorem zw_4_80 : (Jvm.Cond.code ({ cls := "Residueworks$Whole", name := "becomeBits", desc := "(CLResidueworks$Whole;LResidueworks$Whole;)V" } : Jvm.MethodName) prog_10_method_34_code (6 : Nat) (Option.none : Option Jvm.ClassFile.FieldType)) ∈ zTg := zt_4 (i := 80) rfl rfl
theorem zw_4_81 : (Jvm.Cond.methodLink "Residueworks$Whole" (103 : Nat) ({ cls := "Residueworks$Whole", name := "joinedBits", desc := "(CII)I" } : Jvm.MethodName)) ∈ zTg := zt_4 (i := 81) rfl rfl
theorem zw_4_82 : (Jvm.Cond.static ({ cls := "Residueworks$Whole", name := "joinedBits", desc := "(CII)I" } : Jvm.MethodName)) ∈ zTg := zt_4 (i := 82) rfl rfl
theorem zw_4_83 : (Jvm.Cond.code ({ cls := "Residueworks$Whole", name := "joinedBits", desc := "(CII)I" } : Jvm.MethodName) prog_10_method_35_code (3 : Nat) (Option.some Jvm.ClassFile.FieldType.int)) ∈ zTg := zt_4 (i := 83) rfl rfl
theorem zw_4_85 : (Jvm.Cond.methodLink "ResidueworksLaw" (184 : Nat) ({ cls := "ResidueworksLaw", name := "alone", desc := "(LResidueworks;CII[J)I" } : Jvm.MethodName)) ∈ zTg := zt_4 (i := 85) rfl rfl
theorem zw_4_86 : (Jvm.Cond.static ({ cls := "ResidueworksLaw", name := "alone", desc := "(LResidueworks;CII[J)I" } : Jvm.MethodName)) ∈ zTg := zt_4 (i := 86) rfl rfl
theorem zw_4_87 : (Jvm.Cond.codeWith ({ cls := "ResidueworksLaw", name := "alone", desc := "(LResidueworks;CII[J)I" } : Jvm.MethodName) method_11_code (6 : Nat) (Option.some Jvm.ClassFile.FieldType.int) [((0 : Nat), (12 : Nat), (15 : Nat), (13 : Nat)), ((0 : Nat), (12 : Nat), (19 : Nat), (28 : Nat)), ((0 : Nat), (12 : Nat), (23 : Nat), (38 : Nat)), ((0 : Nat), (12 : Nat), (27 : Nat), (18 : Nat))]) ∈ zTg := zt_4 (i := 87) rfl rfl
theorem zw_4_88 : (Jvm.Cond.methodLink "ResidueworksLaw" (47 : Nat) ({ cls := "Residueworks", name := "alone", desc := "(CII)I" } : Jvm.MethodName)) ∈ zTg := zt_4 (i := 88) rfl rfl
theorem zw_4_89 : (Jvm.Cond.instanceMethod ({ cls := "Residueworks", name := "alone", desc := "(CII)I" } : Jvm.MethodName)) ∈ zTg := zt_4 (i := 89) rfl rfl
theorem zw_4_90 : (Jvm.Cond.selects "Residueworks" ({ cls := "Residueworks", name := "alone", desc := "(CII)I" } : Jvm.MethodName) ({ cls := "Residueworks", name := "alone", desc := "(CII)I" } : Jvm.MethodName)) ∈ zTg := zt_4 (i := 90) rfl rfl
theorem zw_4_91 : (Jvm.Cond.code ({ cls := "Residueworks", name := "alone", desc := "(CII)I" } : Jvm.MethodName) prog_1_method_10_code (6 : Nat) (Option.some Jvm.ClassFile.FieldType.int)) ∈ zTg := zt_4 (i := 91) rfl rfl
theorem zw_4_93 : (Jvm.Cond.methodLink "Residueworks" (148 : Nat) ({ cls := "Residueworks", name := "reckonOfOne", desc := "(CLResidueworks$Whole;)Z" } : Jvm.MethodName)) ∈ zTg := zt_4 (i := 93) rfl rfl
theorem zw_4_95 : (Jvm.Cond.instanceMethod ({ cls := "Residueworks", name := "reckonOfOne", desc := "(CLResidueworks$Whole;)Z" } : Jvm.MethodName)) ∈ zTg := zt_4 (i := 95) rfl rfl
theorem zw_4_96 : (Jvm.Cond.code ({ cls := "Residueworks", name := "reckonOfOne", desc := "(CLResidueworks$Whole;)Z" } : Jvm.MethodName) prog_1_method_49_code (3 : Nat) (Option.some Jvm.ClassFile.FieldType.boolean)) ∈ zTg := zt_4 (i := 96) rfl rfl
theorem zw_4_97 : (Jvm.Cond.constantLong "Residueworks" (404 : Nat) (-1 : Int64)) ∈ zTg := zt_4 (i := 97) rfl rfl
theorem zw_4_98 : (Jvm.Cond.methodLink "Residueworks" (319 : Nat) ({ cls := "Residueworks$Roots", name := "rootOf", desc := "(LResidueworks$Whole;I)V" } : Jvm.MethodName)) ∈ zTg := zt_4 (i := 98) rfl rfl
theorem zw_4_99 : (Jvm.Cond.instanceMethod ({ cls := "Residueworks$Roots", name := "rootOf", desc := "(LResidueworks$Whole;I)V" } : Jvm.MethodName)) ∈ zTg := zt_4 (i := 99) rfl rfl
theorem zw_4_100 : (Jvm.Cond.selects "Residueworks$Roots" ({ cls := "Residueworks$Roots", name := "rootOf", desc := "(LResidueworks$Whole;I)V" } : Jvm.MethodName) ({ cls := "Residueworks$Roots", name := "rootOf", desc := "(LResidueworks$Whole;I)V" } : Jvm.MethodName)) ∈ zTg := zt_4 (i := 100) rfl rfl
theorem zw_4_101 : (Jvm.Cond.code ({ cls := "Residueworks$Roots", name := "rootOf", desc := "(LResidueworks$Whole;I)V" } : Jvm.MethodName) prog_5_method_3_code (5 : Nat) (Option.none : Option Jvm.ClassFile.FieldType)) ∈ zTg := zt_4 (i := 101) rfl rfl
theorem zw_4_102 : (Jvm.Cond.methodLink "Residueworks$Roots" (31 : Nat) ({ cls := "Residueworks$Whole", name := "becomeLong", desc := "(J)V" } : Jvm.MethodName)) ∈ zTg := zt_4 (i := 102) rfl rfl
theorem zw_4_103 : (Jvm.Cond.methodLink "Residueworks$Roots" (35 : Nat) ({ cls := "Residueworks$Whole", name := "become", desc := "(LResidueworks$Whole;)V" } : Jvm.MethodName)) ∈ zTg := zt_4 (i := 103) rfl rfl
theorem zw_4_104 : (Jvm.Cond.methodLink "Residueworks$Roots" (53 : Nat) ({ cls := "Residueworks$Whole", name := "amountLength", desc := "()I" } : Jvm.MethodName)) ∈ zTg := zt_4 (i := 104) rfl rfl
theorem zw_4_106 : (Jvm.Cond.instanceMethod ({ cls := "Residueworks$Whole", name := "becomeBit", desc := "(I)V" } : Jvm.MethodName)) ∈ zTg := zt_4 (i := 106) rfl rfl
theorem zw_4_107 : (Jvm.Cond.selects "Residueworks$Whole" ({ cls := "Residueworks$Whole", name := "becomeBit", desc := "(I)V" } : Jvm.MethodName) ({ cls := "Residueworks$Whole", name := "becomeBit", desc := "(I)V" } : Jvm.MethodName)) ∈ zTg := zt_4 (i := 107) rfl rfl
theorem zw_4_108 : (Jvm.Cond.code ({ cls := "Residueworks$Whole", name := "becomeBit", desc := "(I)V" } : Jvm.MethodName) prog_10_method_9_code (2 : Nat) (Option.none : Option Jvm.ClassFile.FieldType)) ∈ zTg := zt_4 (i := 108) rfl rfl
theorem zw_4_111 : (Jvm.Cond.instanceMethod ({ cls := "Residueworks$Roots", name := "raise", desc := "(LResidueworks$Whole;II)Z" } : Jvm.MethodName)) ∈ zTg := zt_4 (i := 111) rfl rfl
theorem zw_4_112 : (Jvm.Cond.selects "Residueworks$Roots" ({ cls := "Residueworks$Roots", name := "raise", desc := "(LResidueworks$Whole;II)Z" } : Jvm.MethodName) ({ cls := "Residueworks$Roots", name := "raise", desc := "(LResidueworks$Whole;II)Z" } : Jvm.MethodName)) ∈ zTg := zt_4 (i := 112) rfl rfl
theorem zw_4_113 : (Jvm.Cond.code ({ cls := "Residueworks$Roots", name := "raise", desc := "(LResidueworks$Whole;II)Z" } : Jvm.MethodName) prog_5_method_2_code (5 : Nat) (Option.some Jvm.ClassFile.FieldType.boolean)) ∈ zTg := zt_4 (i := 113) rfl rfl
theorem zw_4_114 : (Jvm.Cond.methodLink "Residueworks$Roots" (39 : Nat) ({ cls := "java/lang/Integer", name := "numberOfLeadingZeros", desc := "(I)I" } : Jvm.MethodName)) ∈ zTg := zt_4 (i := 114) rfl rfl
theorem zw_4_115 : (Jvm.Cond.methodLink "Residueworks$Roots" (45 : Nat) ({ cls := "Residueworks$Whole", name := "productOf", desc := "(LResidueworks$Whole;LResidueworks$Whole;)V" } : Jvm.MethodName)) ∈ zTg := zt_4 (i := 115) rfl rfl
theorem zw_4_116 : (Jvm.Cond.methodLink "Residueworks$Roots" (49 : Nat) ({ cls := "Residueworks$Whole", name := "bitLength", desc := "()I" } : Jvm.MethodName)) ∈ zTg := zt_4 (i := 116) rfl rfl
theorem zw_4_118 : (Jvm.Cond.methodLink "ResidueworksLaw" (188 : Nat) ({ cls := "ResidueworksLaw", name := "shifts", desc := "(LResidueworks;III[J)I" } : Jvm.MethodName)) ∈ zTg := zt_4 (i := 118) rfl rfl
theorem zw_4_119 : (Jvm.Cond.static ({ cls := "ResidueworksLaw", name := "shifts", desc := "(LResidueworks;III[J)I" } : Jvm.MethodName)) ∈ zTg := zt_4 (i := 119) rfl rfl
theorem zw_4_120 : (Jvm.Cond.codeWith ({ cls := "ResidueworksLaw", name := "shifts", desc := "(LResidueworks;III[J)I" } : Jvm.MethodName) method_12_code (6 : Nat) (Option.some Jvm.ClassFile.FieldType.int) [((0 : Nat), (12 : Nat), (15 : Nat), (13 : Nat)), ((0 : Nat), (12 : Nat), (19 : Nat), (28 : Nat)), ((0 : Nat), (12 : Nat), (23 : Nat), (18 : Nat))]) ∈ zTg := zt_4 (i := 120) rfl rfl
theorem zw_4_121 : (Jvm.Cond.methodLink "ResidueworksLaw" (51 : Nat) ({ cls := "Residueworks", name := "shifts", desc := "(III)I" } : Jvm.MethodName)) ∈ zTg := zt_4 (i := 121) rfl rfl
theorem zw_4_122 : (Jvm.Cond.instanceMethod ({ cls := "Residueworks", name := "shifts", desc := "(III)I" } : Jvm.MethodName)) ∈ zTg := zt_4 (i := 122) rfl rfl
theorem zw_4_123 : (Jvm.Cond.selects "Residueworks" ({ cls := "Residueworks", name := "shifts", desc := "(III)I" } : Jvm.MethodName) ({ cls := "Residueworks", name := "shifts", desc := "(III)I" } : Jvm.MethodName)) ∈ zTg := zt_4 (i := 123) rfl rfl
theorem zw_4_124 : (Jvm.Cond.code ({ cls := "Residueworks", name := "shifts", desc := "(III)I" } : Jvm.MethodName) prog_1_method_11_code (6 : Nat) (Option.some Jvm.ClassFile.FieldType.int)) ∈ zTg := zt_4 (i := 124) rfl rfl
theorem zw_4_125 : (Jvm.Cond.methodLink "Residueworks" (157 : Nat) ({ cls := "Residueworks$Whole", name := "shiftDownFloor", desc := "(LResidueworks$Whole;I)V" } : Jvm.MethodName)) ∈ zTg := zt_4 (i := 125) rfl rfl
theorem zw_4_126 : (Jvm.Cond.instanceMethod ({ cls := "Residueworks$Whole", name := "shiftDownFloor", desc := "(LResidueworks$Whole;I)V" } : Jvm.MethodName)) ∈ zTg := zt_4 (i := 126) rfl rfl
theorem zw_4_127 : (Jvm.Cond.selects "Residueworks$Whole" ({ cls := "Residueworks$Whole", name := "shiftDownFloor", desc := "(LResidueworks$Whole;I)V" } : Jvm.MethodName) ({ cls := "Residueworks$Whole", name := "shiftDownFloor", desc := "(LResidueworks$Whole;I)V" } : Jvm.MethodName)) ∈ zTg := zt_4 (i := 127) rfl rfl
theorem zw_4_128 : (Jvm.Cond.code ({ cls := "Residueworks$Whole", name := "shiftDownFloor", desc := "(LResidueworks$Whole;I)V" } : Jvm.MethodName) prog_10_method_30_code (4 : Nat) (Option.none : Option Jvm.ClassFile.FieldType)) ∈ zTg := zt_4 (i := 128) rfl rfl
theorem zw_4_129 : (Jvm.Cond.methodLink "Residueworks$Whole" (96 : Nat) ({ cls := "Residueworks$Whole", name := "shiftDown", desc := "(LResidueworks$Whole;I)V" } : Jvm.MethodName)) ∈ zTg := zt_4 (i := 129) rfl rfl
theorem zw_4_131 : (Jvm.Cond.instanceMethod ({ cls := "Residueworks$Whole", name := "grow", desc := "(II)V" } : Jvm.MethodName)) ∈ zTg := zt_4 (i := 131) rfl rfl
theorem zw_4_132 : (Jvm.Cond.selects "Residueworks$Whole" ({ cls := "Residueworks$Whole", name := "grow", desc := "(II)V" } : Jvm.MethodName) ({ cls := "Residueworks$Whole", name := "grow", desc := "(II)V" } : Jvm.MethodName)) ∈ zTg := zt_4 (i := 132) rfl rfl
theorem zw_4_133 : (Jvm.Cond.code ({ cls := "Residueworks$Whole", name := "grow", desc := "(II)V" } : Jvm.MethodName) prog_10_method_31_code (9 : Nat) (Option.none : Option Jvm.ClassFile.FieldType)) ∈ zTg := zt_4 (i := 133) rfl rfl
theorem zw_4_134 : (Jvm.Cond.methodLink "ResidueworksLaw" (192 : Nat) ({ cls := "ResidueworksLaw", name := "bit", desc := "(LResidueworks;II[J)I" } : Jvm.MethodName)) ∈ zTg := zt_4 (i := 134) rfl rfl
theorem zw_4_135 : (Jvm.Cond.static ({ cls := "ResidueworksLaw", name := "bit", desc := "(LResidueworks;II[J)I" } : Jvm.MethodName)) ∈ zTg := zt_4 (i := 135) rfl rfl
theorem zw_4_136 : (Jvm.Cond.codeWith ({ cls := "ResidueworksLaw", name := "bit", desc := "(LResidueworks;II[J)I" } : Jvm.MethodName) method_13_code (5 : Nat) (Option.some Jvm.ClassFile.FieldType.int) [((0 : Nat), (17 : Nat), (20 : Nat), (13 : Nat)), ((0 : Nat), (17 : Nat), (24 : Nat), (28 : Nat))]) ∈ zTg := zt_4 (i := 136) rfl rfl
theorem zw_4_137 : (Jvm.Cond.methodLink "ResidueworksLaw" (55 : Nat) ({ cls := "Residueworks", name := "bit", desc := "(II)Z" } : Jvm.MethodName)) ∈ zTg := zt_4 (i := 137) rfl rfl
theorem zw_4_138 : (Jvm.Cond.instanceMethod ({ cls := "Residueworks", name := "bit", desc := "(II)Z" } : Jvm.MethodName)) ∈ zTg := zt_4 (i := 138) rfl rfl
theorem zw_4_139 : (Jvm.Cond.selects "Residueworks" ({ cls := "Residueworks", name := "bit", desc := "(II)Z" } : Jvm.MethodName) ({ cls := "Residueworks", name := "bit", desc := "(II)Z" } : Jvm.MethodName)) ∈ zTg := zt_4 (i := 139) rfl rfl
theorem zw_4_140 : (Jvm.Cond.code ({ cls := "Residueworks", name := "bit", desc := "(II)Z" } : Jvm.MethodName) prog_1_method_12_code (4 : Nat) (Option.some Jvm.ClassFile.FieldType.boolean)) ∈ zTg := zt_4 (i := 140) rfl rfl
theorem zw_4_141 : (Jvm.Cond.methodLink "ResidueworksLaw" (195 : Nat) ({ cls := "ResidueworksLaw", name := "setBit", desc := "(LResidueworks;IIC[J)I" } : Jvm.MethodName)) ∈ zTg := zt_4 (i := 141) rfl rfl
theorem zw_4_142 : (Jvm.Cond.static ({ cls := "ResidueworksLaw", name := "setBit", desc := "(LResidueworks;IIC[J)I" } : Jvm.MethodName)) ∈ zTg := zt_4 (i := 142) rfl rfl
theorem zw_4_143 : (Jvm.Cond.codeWith ({ cls := "ResidueworksLaw", name := "setBit", desc := "(LResidueworks;IIC[J)I" } : Jvm.MethodName) method_14_code (6 : Nat) (Option.some Jvm.ClassFile.FieldType.int) [((0 : Nat), (12 : Nat), (15 : Nat), (13 : Nat)), ((0 : Nat), (12 : Nat), (19 : Nat), (28 : Nat))]) ∈ zTg := zt_4 (i := 143) rfl rfl
theorem zw_4_144 : (Jvm.Cond.methodLink "ResidueworksLaw" (59 : Nat) ({ cls := "Residueworks", name := "setBit", desc := "(IIC)I" } : Jvm.MethodName)) ∈ zTg := zt_4 (i := 144) rfl rfl
theorem zw_4_145 : (Jvm.Cond.instanceMethod ({ cls := "Residueworks", name := "setBit", desc := "(IIC)I" } : Jvm.MethodName)) ∈ zTg := zt_4 (i := 145) rfl rfl
theorem zw_4_146 : (Jvm.Cond.selects "Residueworks" ({ cls := "Residueworks", name := "setBit", desc := "(IIC)I" } : Jvm.MethodName) ({ cls := "Residueworks", name := "setBit", desc := "(IIC)I" } : Jvm.MethodName)) ∈ zTg := zt_4 (i := 146) rfl rfl
theorem zw_4_147 : (Jvm.Cond.code ({ cls := "Residueworks", name := "setBit", desc := "(IIC)I" } : Jvm.MethodName) prog_1_method_13_code (5 : Nat) (Option.some Jvm.ClassFile.FieldType.int)) ∈ zTg := zt_4 (i := 147) rfl rfl
theorem zw_4_148 : (Jvm.Cond.methodLink "Residueworks" (160 : Nat) ({ cls := "Residueworks$Whole", name := "becomeBit", desc := "(I)V" } : Jvm.MethodName)) ∈ zTg := zt_4 (i := 148) rfl rfl
theorem zw_4_150 : (Jvm.Cond.methodLink "ResidueworksLaw" (199 : Nat) ({ cls := "ResidueworksLaw", name := "power", desc := "(LResidueworks;III[J)I" } : Jvm.MethodName)) ∈ zTg := zt_4 (i := 150) rfl rfl
theorem zw_4_151 : (Jvm.Cond.static ({ cls := "ResidueworksLaw", name := "power", desc := "(LResidueworks;III[J)I" } : Jvm.MethodName)) ∈ zTg := zt_4 (i := 151) rfl rfl
theorem zw_4_152 : (Jvm.Cond.codeWith ({ cls := "ResidueworksLaw", name := "power", desc := "(LResidueworks;III[J)I" } : Jvm.MethodName) method_15_code (6 : Nat) (Option.some Jvm.ClassFile.FieldType.int) [((0 : Nat), (12 : Nat), (15 : Nat), (13 : Nat)), ((0 : Nat), (12 : Nat), (19 : Nat), (28 : Nat)), ((0 : Nat), (12 : Nat), (23 : Nat), (18 : Nat))]) ∈ zTg := zt_4 (i := 152) rfl rfl
theorem zw_4_153 : (Jvm.Cond.methodLink "ResidueworksLaw" (63 : Nat) ({ cls := "Residueworks", name := "power", desc := "(III)I" } : Jvm.MethodName)) ∈ zTg := zt_4 (i := 153) rfl rfl
theorem zw_4_154 : (Jvm.Cond.instanceMethod ({ cls := "Residueworks", name := "power", desc := "(III)I" } : Jvm.MethodName)) ∈ zTg := zt_4 (i := 154) rfl rfl
theorem zw_4_155 : (Jvm.Cond.selects "Residueworks" ({ cls := "Residueworks", name := "power", desc := "(III)I" } : Jvm.MethodName) ({ cls := "Residueworks", name := "power", desc := "(III)I" } : Jvm.MethodName)) ∈ zTg := zt_4 (i := 155) rfl rfl
theorem zw_4_156 : (Jvm.Cond.code ({ cls := "Residueworks", name := "power", desc := "(III)I" } : Jvm.MethodName) prog_1_method_14_code (6 : Nat) (Option.some Jvm.ClassFile.FieldType.int)) ∈ zTg := zt_4 (i := 156) rfl rfl
theorem zw_4_157 : (Jvm.Cond.methodLink "Residueworks" (170 : Nat) ({ cls := "Residueworks$Roots", name := "raise", desc := "(LResidueworks$Whole;II)Z" } : Jvm.MethodName)) ∈ zTg := zt_4 (i := 157) rfl rfl
theorem zw_4_158 : (Jvm.Cond.methodLink "ResidueworksLaw" (202 : Nat) ({ cls := "ResidueworksLaw", name := "divides", desc := "(LResidueworks;IIII[J)I" } : Jvm.MethodName)) ∈ zTg := zt_4 (i := 158) rfl rfl
theorem zw_4_159 : (Jvm.Cond.static ({ cls := "ResidueworksLaw", name := "divides", desc := "(LResidueworks;IIII[J)I" } : Jvm.MethodName)) ∈ zTg := zt_4 (i := 159) rfl rfl
theorem zw_4_160 : (Jvm.Cond.codeWith ({ cls := "ResidueworksLaw", name := "divides", desc := "(LResidueworks;IIII[J)I" } : Jvm.MethodName) method_16_code (7 : Nat) (Option.some Jvm.ClassFile.FieldType.int) [((0 : Nat), (14 : Nat), (17 : Nat), (13 : Nat)), ((0 : Nat), (14 : Nat), (21 : Nat), (28 : Nat)), ((0 : Nat), (14 : Nat), (25 : Nat), (38 : Nat)), ((0 : Nat), (14 : Nat), (29 : Nat), (18 : Nat))]) ∈ zTg := zt_4 (i := 160) rfl rfl
theorem zw_4_161 : (Jvm.Cond.methodLink "ResidueworksLaw" (66 : Nat) ({ cls := "Residueworks", name := "divides", desc := "(IIII)I" } : Jvm.MethodName)) ∈ zTg := zt_4 (i := 161) rfl rfl
theorem zw_4_162 : (Jvm.Cond.instanceMethod ({ cls := "Residueworks", name := "divides", desc := "(IIII)I" } : Jvm.MethodName)) ∈ zTg := zt_4 (i := 162) rfl rfl
theorem zw_4_163 : (Jvm.Cond.selects "Residueworks" ({ cls := "Residueworks", name := "divides", desc := "(IIII)I" } : Jvm.MethodName) ({ cls := "Residueworks", name := "divides", desc := "(IIII)I" } : Jvm.MethodName)) ∈ zTg := zt_4 (i := 163) rfl rfl
theorem zw_4_164 : (Jvm.Cond.code ({ cls := "Residueworks", name := "divides", desc := "(IIII)I" } : Jvm.MethodName) prog_1_method_15_code (9 : Nat) (Option.some Jvm.ClassFile.FieldType.int)) ∈ zTg := zt_4 (i := 164) rfl rfl
theorem zw_4_166 : (Jvm.Cond.methodLink "ResidueworksLaw" (206 : Nat) ({ cls := "ResidueworksLaw", name := "type", desc := "(LResidueworks;C[J)I" } : Jvm.MethodName)) ∈ zTg := zt_4 (i := 166) rfl rfl
theorem zw_4_167 : (Jvm.Cond.static ({ cls := "ResidueworksLaw", name := "type", desc := "(LResidueworks;C[J)I" } : Jvm.MethodName)) ∈ zTg := zt_4 (i := 167) rfl rfl
theorem zw_4_168 : (Jvm.Cond.codeWith ({ cls := "ResidueworksLaw", name := "type", desc := "(LResidueworks;C[J)I" } : Jvm.MethodName) method_17_code (4 : Nat) (Option.some Jvm.ClassFile.FieldType.int) [((0 : Nat), (9 : Nat), (12 : Nat), (28 : Nat)), ((0 : Nat), (9 : Nat), (15 : Nat), (18 : Nat))]) ∈ zTg := zt_4 (i := 168) rfl rfl
theorem zw_4_169 : (Jvm.Cond.methodLink "ResidueworksLaw" (70 : Nat) ({ cls := "Residueworks", name := "type", desc := "(C)I" } : Jvm.MethodName)) ∈ zTg := zt_4 (i := 169) rfl rfl
theorem zw_4_170 : (Jvm.Cond.instanceMethod ({ cls := "Residueworks", name := "type", desc := "(C)I" } : Jvm.MethodName)) ∈ zTg := zt_4 (i := 170) rfl rfl
theorem zw_4_171 : (Jvm.Cond.selects "Residueworks" ({ cls := "Residueworks", name := "type", desc := "(C)I" } : Jvm.MethodName) ({ cls := "Residueworks", name := "type", desc := "(C)I" } : Jvm.MethodName)) ∈ zTg := zt_4 (i := 171) rfl rfl
theorem zw_4_172 : (Jvm.Cond.code ({ cls := "Residueworks", name := "type", desc := "(C)I" } : Jvm.MethodName) prog_1_method_16_code (2 : Nat) (Option.some Jvm.ClassFile.FieldType.int)) ∈ zTg := zt_4 (i := 172) rfl rfl
theorem zw_4_173 : (Jvm.Cond.methodLink "Residueworks" (188 : Nat) ({ cls := "Residueworks$Text", name := "isFull", desc := "()Z" } : Jvm.MethodName)) ∈ zTg := zt_4 (i := 173) rfl rfl
theorem zw_4_174 : (Jvm.Cond.instanceMethod ({ cls := "Residueworks$Text", name := "isFull", desc := "()Z" } : Jvm.MethodName)) ∈ zTg := zt_4 (i := 174) rfl rfl
theorem zw_4_175 : (Jvm.Cond.selects "Residueworks$Text" ({ cls := "Residueworks$Text", name := "isFull", desc := "()Z" } : Jvm.MethodName) ({ cls := "Residueworks$Text", name := "isFull", desc := "()Z" } : Jvm.MethodName)) ∈ zTg := zt_4 (i := 175) rfl rfl
theorem zw_4_176 : (Jvm.Cond.code ({ cls := "Residueworks$Text", name := "isFull", desc := "()Z" } : Jvm.MethodName) prog_8_method_2_code (1 : Nat) (Option.some Jvm.ClassFile.FieldType.boolean)) ∈ zTg := zt_4 (i := 176) rfl rfl
theorem zw_4_178 : (Jvm.Cond.methodLink "Residueworks" (194 : Nat) ({ cls := "Residueworks$Text", name := "append", desc := "(C)V" } : Jvm.MethodName)) ∈ zTg := zt_4 (i := 178) rfl rfl
theorem zw_4_179 : (Jvm.Cond.instanceMethod ({ cls := "Residueworks$Text", name := "append", desc := "(C)V" } : Jvm.MethodName)) ∈ zTg := zt_4 (i := 179) rfl rfl
theorem zw_4_180 : (Jvm.Cond.selects "Residueworks$Text" ({ cls := "Residueworks$Text", name := "append", desc := "(C)V" } : Jvm.MethodName) ({ cls := "Residueworks$Text", name := "append", desc := "(C)V" } : Jvm.MethodName)) ∈ zTg := zt_4 (i := 180) rfl rfl
theorem zw_4_181 : (Jvm.Cond.code ({ cls := "Residueworks$Text", name := "append", desc := "(C)V" } : Jvm.MethodName) prog_8_method_3_code (2 : Nat) (Option.none : Option Jvm.ClassFile.FieldType)) ∈ zTg := zt_4 (i := 181) rfl rfl
theorem zw_4_182 : (Jvm.Cond.methodLink "ResidueworksLaw" (214 : Nat) ({ cls := "ResidueworksLaw", name := "signAt", desc := "(LResidueworks;I[J)I" } : Jvm.MethodName)) ∈ zTg := zt_4 (i := 182) rfl rfl
theorem zw_4_183 : (Jvm.Cond.static ({ cls := "ResidueworksLaw", name := "signAt", desc := "(LResidueworks;I[J)I" } : Jvm.MethodName)) ∈ zTg := zt_4 (i := 183) rfl rfl
theorem zw_4_184 : (Jvm.Cond.codeWith ({ cls := "ResidueworksLaw", name := "signAt", desc := "(LResidueworks;I[J)I" } : Jvm.MethodName) method_18_code (4 : Nat) (Option.some Jvm.ClassFile.FieldType.int) [((0 : Nat), (9 : Nat), (12 : Nat), (13 : Nat))]) ∈ zTg := zt_4 (i := 184) rfl rfl
theorem zw_4_185 : (Jvm.Cond.methodLink "ResidueworksLaw" (74 : Nat) ({ cls := "Residueworks", name := "signAt", desc := "(I)C" } : Jvm.MethodName)) ∈ zTg := zt_4 (i := 185) rfl rfl
theorem zw_4_186 : (Jvm.Cond.instanceMethod ({ cls := "Residueworks", name := "signAt", desc := "(I)C" } : Jvm.MethodName)) ∈ zTg := zt_4 (i := 186) rfl rfl
theorem zw_4_187 : (Jvm.Cond.selects "Residueworks" ({ cls := "Residueworks", name := "signAt", desc := "(I)C" } : Jvm.MethodName) ({ cls := "Residueworks", name := "signAt", desc := "(I)C" } : Jvm.MethodName)) ∈ zTg := zt_4 (i := 187) rfl rfl
theorem zw_4_188 : (Jvm.Cond.code ({ cls := "Residueworks", name := "signAt", desc := "(I)C" } : Jvm.MethodName) prog_1_method_18_code (2 : Nat) (Option.some Jvm.ClassFile.FieldType.char)) ∈ zTg := zt_4 (i := 188) rfl rfl
theorem zw_4_190 : (Jvm.Cond.methodLink "ResidueworksLaw" (217 : Nat) ({ cls := "ResidueworksLaw", name := "read", desc := "(LResidueworks;II[J)I" } : Jvm.MethodName)) ∈ zTg := zt_4 (i := 190) rfl rfl
theorem zw_4_191 : (Jvm.Cond.static ({ cls := "ResidueworksLaw", name := "read", desc := "(LResidueworks;II[J)I" } : Jvm.MethodName)) ∈ zTg := zt_4 (i := 191) rfl rfl
theorem zw_4_192 : (Jvm.Cond.codeWith ({ cls := "ResidueworksLaw", name := "read", desc := "(LResidueworks;II[J)I" } : Jvm.MethodName) method_19_code (5 : Nat) (Option.some Jvm.ClassFile.FieldType.int) [((0 : Nat), (10 : Nat), (13 : Nat), (13 : Nat)), ((0 : Nat), (10 : Nat), (17 : Nat), (28 : Nat)), ((0 : Nat), (10 : Nat), (21 : Nat), (18 : Nat))]) ∈ zTg := zt_4 (i := 192) rfl rfl
theorem zw_4_193 : (Jvm.Cond.methodLink "ResidueworksLaw" (78 : Nat) ({ cls := "Residueworks", name := "read", desc := "(II)I" } : Jvm.MethodName)) ∈ zTg := zt_4 (i := 193) rfl rfl
theorem zw_4_194 : (Jvm.Cond.instanceMethod ({ cls := "Residueworks", name := "read", desc := "(II)I" } : Jvm.MethodName)) ∈ zTg := zt_4 (i := 194) rfl rfl
theorem zw_4_195 : (Jvm.Cond.selects "Residueworks" ({ cls := "Residueworks", name := "read", desc := "(II)I" } : Jvm.MethodName) ({ cls := "Residueworks", name := "read", desc := "(II)I" } : Jvm.MethodName)) ∈ zTg := zt_4 (i := 195) rfl rfl
theorem zw_4_196 : (Jvm.Cond.code ({ cls := "Residueworks", name := "read", desc := "(II)I" } : Jvm.MethodName) prog_1_method_19_code (4 : Nat) (Option.some Jvm.ClassFile.FieldType.int)) ∈ zTg := zt_4 (i := 196) rfl rfl
theorem zw_4_197 : (Jvm.Cond.methodLink "Residueworks" (210 : Nat) ({ cls := "java/lang/Integer", name := "numberOfLeadingZeros", desc := "(I)I" } : Jvm.MethodName)) ∈ zTg := zt_4 (i := 197) rfl rfl
theorem zw_4_199 : (Jvm.Cond.methodLink "Residueworks" (218 : Nat) ({ cls := "Residueworks$Text", name := "tellNumber", desc := "(LResidueworks$Whole;I)Z" } : Jvm.MethodName)) ∈ zTg := zt_4 (i := 199) rfl rfl
theorem zw_4_200 : (Jvm.Cond.instanceMethod ({ cls := "Residueworks$Text", name := "tellNumber", desc := "(LResidueworks$Whole;I)Z" } : Jvm.MethodName)) ∈ zTg := zt_4 (i := 200) rfl rfl
theorem zw_4_201 : (Jvm.Cond.selects "Residueworks$Text" ({ cls := "Residueworks$Text", name := "tellNumber", desc := "(LResidueworks$Whole;I)Z" } : Jvm.MethodName) ({ cls := "Residueworks$Text", name := "tellNumber", desc := "(LResidueworks$Whole;I)Z" } : Jvm.MethodName)) ∈ zTg := zt_4 (i := 201) rfl rfl
theorem zw_4_202 : (Jvm.Cond.code ({ cls := "Residueworks$Text", name := "tellNumber", desc := "(LResidueworks$Whole;I)Z" } : Jvm.MethodName) prog_8_method_7_code (6 : Nat) (Option.some Jvm.ClassFile.FieldType.boolean)) ∈ zTg := zt_4 (i := 202) rfl rfl
theorem zw_4_203 : (Jvm.Cond.methodLink "Residueworks$Text" (46 : Nat) ({ cls := "Residueworks$Text", name := "at", desc := "(I)C" } : Jvm.MethodName)) ∈ zTg := zt_4 (i := 203) rfl rfl
theorem zw_4_204 : (Jvm.Cond.methodLink "Residueworks$Text" (49 : Nat) ({ cls := "Residueworks$Whole", name := "becomeLong", desc := "(J)V" } : Jvm.MethodName)) ∈ zTg := zt_4 (i := 204) rfl rfl
theorem zw_4_205 : (Jvm.Cond.methodLink "Residueworks$Text" (53 : Nat) ({ cls := "Residueworks$Text", name := "digitOf", desc := "(C)I" } : Jvm.MethodName)) ∈ zTg := zt_4 (i := 205) rfl rfl
theorem zw_4_206 : (Jvm.Cond.static ({ cls := "Residueworks$Text", name := "digitOf", desc := "(C)I" } : Jvm.MethodName)) ∈ zTg := zt_4 (i := 206) rfl rfl
theorem zw_4_207 : (Jvm.Cond.code ({ cls := "Residueworks$Text", name := "digitOf", desc := "(C)I" } : Jvm.MethodName) prog_8_method_9_code (1 : Nat) (Option.some Jvm.ClassFile.FieldType.int)) ∈ zTg := zt_4 (i := 207) rfl rfl
theorem zw_4_208 : (Jvm.Cond.methodLink "Residueworks$Text" (57 : Nat) ({ cls := "Residueworks$Whole", name := "grow", desc := "(II)V" } : Jvm.MethodName)) ∈ zTg := zt_4 (i := 208) rfl rfl
theorem zw_4_209 : (Jvm.Cond.methodLink "ResidueworksLaw" (220 : Nat) ({ cls := "ResidueworksLaw", name := "write", desc := "(LResidueworks;II[J)I" } : Jvm.MethodName)) ∈ zTg := zt_4 (i := 209) rfl rfl
theorem zw_4_210 : (Jvm.Cond.static ({ cls := "ResidueworksLaw", name := "write", desc := "(LResidueworks;II[J)I" } : Jvm.MethodName)) ∈ zTg := zt_4 (i := 210) rfl rfl
theorem zw_4_211 : (Jvm.Cond.codeWith ({ cls := "ResidueworksLaw", name := "write", desc := "(LResidueworks;II[J)I" } : Jvm.MethodName) method_20_code (5 : Nat) (Option.some Jvm.ClassFile.FieldType.int) [((0 : Nat), (10 : Nat), (13 : Nat), (13 : Nat)), ((0 : Nat), (10 : Nat), (17 : Nat), (28 : Nat))]) ∈ zTg := zt_4 (i := 211) rfl rfl
theorem zw_4_212 : (Jvm.Cond.methodLink "ResidueworksLaw" (81 : Nat) ({ cls := "Residueworks", name := "write", desc := "(II)I" } : Jvm.MethodName)) ∈ zTg := zt_4 (i := 212) rfl rfl
theorem zw_4_213 : (Jvm.Cond.instanceMethod ({ cls := "Residueworks", name := "write", desc := "(II)I" } : Jvm.MethodName)) ∈ zTg := zt_4 (i := 213) rfl rfl
theorem zw_4_214 : (Jvm.Cond.selects "Residueworks" ({ cls := "Residueworks", name := "write", desc := "(II)I" } : Jvm.MethodName) ({ cls := "Residueworks", name := "write", desc := "(II)I" } : Jvm.MethodName)) ∈ zTg := zt_4 (i := 214) rfl rfl
theorem zw_4_215 : (Jvm.Cond.code ({ cls := "Residueworks", name := "write", desc := "(II)I" } : Jvm.MethodName) prog_1_method_20_code (4 : Nat) (Option.some Jvm.ClassFile.FieldType.int)) ∈ zTg := zt_4 (i := 215) rfl rfl
theorem zw_4_216 : (Jvm.Cond.methodLink "Residueworks" (222 : Nat) ({ cls := "Residueworks$Text", name := "show", desc := "(LResidueworks$Whole;I)V" } : Jvm.MethodName)) ∈ zTg := zt_4 (i := 216) rfl rfl
theorem zw_4_217 : (Jvm.Cond.instanceMethod ({ cls := "Residueworks$Text", name := "show", desc := "(LResidueworks$Whole;I)V" } : Jvm.MethodName)) ∈ zTg := zt_4 (i := 217) rfl rfl
theorem zw_4_218 : (Jvm.Cond.selects "Residueworks$Text" ({ cls := "Residueworks$Text", name := "show", desc := "(LResidueworks$Whole;I)V" } : Jvm.MethodName) ({ cls := "Residueworks$Text", name := "show", desc := "(LResidueworks$Whole;I)V" } : Jvm.MethodName)) ∈ zTg := zt_4 (i := 218) rfl rfl
theorem zw_4_219 : (Jvm.Cond.code ({ cls := "Residueworks$Text", name := "show", desc := "(LResidueworks$Whole;I)V" } : Jvm.MethodName) prog_8_method_5_code (4 : Nat) (Option.none : Option Jvm.ClassFile.FieldType)) ∈ zTg := zt_4 (i := 219) rfl rfl
theorem zw_4_220 : (Jvm.Cond.methodLink "Residueworks$Text" (24 : Nat) ({ cls := "Residueworks$Whole", name := "becomeAmountOf", desc := "(LResidueworks$Whole;)V" } : Jvm.MethodName)) ∈ zTg := zt_4 (i := 220) rfl rfl
theorem zw_4_221 : (Jvm.Cond.methodLink "Residueworks$Text" (31 : Nat) ({ cls := "Residueworks$Text", name := "append", desc := "(C)V" } : Jvm.MethodName)) ∈ zTg := zt_4 (i := 221) rfl rfl
theorem zw_4_229 : (Jvm.Cond.methodLink "Residueworks$Text" (43 : Nat) ({ cls := "Residueworks$Text", name := "turnRound", desc := "()V" } : Jvm.MethodName)) ∈ zTg := zt_4 (i := 229) rfl rfl
theorem zw_4_231 : (Jvm.Cond.instanceMethod ({ cls := "Residueworks$Text", name := "turnRound", desc := "()V" } : Jvm.MethodName)) ∈ zTg := zt_4 (i := 231) rfl rfl
theorem zw_4_232 : (Jvm.Cond.code ({ cls := "Residueworks$Text", name := "turnRound", desc := "()V" } : Jvm.MethodName) prog_8_method_6_code (4 : Nat) (Option.none : Option Jvm.ClassFile.FieldType)) ∈ zTg := zt_4 (i := 232) rfl rfl
theorem zw_4_233 : (Jvm.Cond.methodLink "ResidueworksLaw" (223 : Nat) ({ cls := "ResidueworksLaw", name := "push", desc := "(LResidueworks;I[J)I" } : Jvm.MethodName)) ∈ zTg := zt_4 (i := 233) rfl rfl
theorem zw_4_234 : (Jvm.Cond.static ({ cls := "ResidueworksLaw", name := "push", desc := "(LResidueworks;I[J)I" } : Jvm.MethodName)) ∈ zTg := zt_4 (i := 234) rfl rfl
theorem zw_4_235 : (Jvm.Cond.codeWith ({ cls := "ResidueworksLaw", name := "push", desc := "(LResidueworks;I[J)I" } : Jvm.MethodName) method_21_code (4 : Nat) (Option.some Jvm.ClassFile.FieldType.int) [((0 : Nat), (9 : Nat), (12 : Nat), (28 : Nat)), ((0 : Nat), (9 : Nat), (15 : Nat), (18 : Nat))]) ∈ zTg := zt_4 (i := 235) rfl rfl
theorem zw_4_236 : (Jvm.Cond.methodLink "ResidueworksLaw" (84 : Nat) ({ cls := "Residueworks", name := "push", desc := "(I)I" } : Jvm.MethodName)) ∈ zTg := zt_4 (i := 236) rfl rfl
theorem zw_4_237 : (Jvm.Cond.instanceMethod ({ cls := "Residueworks", name := "push", desc := "(I)I" } : Jvm.MethodName)) ∈ zTg := zt_4 (i := 237) rfl rfl
theorem zw_4_238 : (Jvm.Cond.selects "Residueworks" ({ cls := "Residueworks", name := "push", desc := "(I)I" } : Jvm.MethodName) ({ cls := "Residueworks", name := "push", desc := "(I)I" } : Jvm.MethodName)) ∈ zTg := zt_4 (i := 238) rfl rfl
theorem zw_4_239 : (Jvm.Cond.code ({ cls := "Residueworks", name := "push", desc := "(I)I" } : Jvm.MethodName) prog_1_method_21_code (2 : Nat) (Option.some Jvm.ClassFile.FieldType.int)) ∈ zTg := zt_4 (i := 239) rfl rfl
theorem zws_5 : Cond.selects "Residueworks" ⟨"Residueworks", "needRange", "(III)V"⟩ ⟨"Residueworks", "needRange", "(III)V"⟩ ∈ zTg := zsel (i := 5) (q := (⟨"Residueworks", "needRange", "(III)V"⟩, 10)) (by decide +kernel)
theorem zw_5_0 : (Jvm.Cond.methodLink "Residueworks" (225 : Nat) ({ cls := "Residueworks$Row", name := "isFull", desc := "()Z" } : Jvm.MethodName)) ∈ zTg := zt_5 (i := 0) rfl rfl
theorem zw_5_1 : (Jvm.Cond.instanceMethod ({ cls := "Residueworks$Row", name := "isFull", desc := "()Z" } : Jvm.MethodName)) ∈ zTg := zt_5 (i := 1) rfl rfl
theorem zw_5_2 : (Jvm.Cond.selects "Residueworks$Row" ({ cls := "Residueworks$Row", name := "isFull", desc := "()Z" } : Jvm.MethodName) ({ cls := "Residueworks$Row", name := "isFull", desc := "()Z" } : Jvm.MethodName)) ∈ zTg := zt_5 (i := 2) rfl rfl
theorem zw_5_3 : (Jvm.Cond.code ({ cls := "Residueworks$Row", name := "isFull", desc := "()Z" } : Jvm.MethodName) prog_6_method_2_code (1 : Nat) (Option.some Jvm.ClassFile.FieldType.boolean)) ∈ zTg := zt_5 (i := 3) rfl rfl
theorem zw_5_5 : (Jvm.Cond.methodLink "Residueworks" (228 : Nat) ({ cls := "Residueworks$Row", name := "append", desc := "(B)V" } : Jvm.MethodName)) ∈ zTg := zt_5 (i := 5) rfl rfl
theorem zw_5_6 : (Jvm.Cond.instanceMethod ({ cls := "Residueworks$Row", name := "append", desc := "(B)V" } : Jvm.MethodName)) ∈ zTg := zt_5 (i := 6) rfl rfl
theorem zw_5_7 : (Jvm.Cond.selects "Residueworks$Row" ({ cls := "Residueworks$Row", name := "append", desc := "(B)V" } : Jvm.MethodName) ({ cls := "Residueworks$Row", name := "append", desc := "(B)V" } : Jvm.MethodName)) ∈ zTg := zt_5 (i := 7) rfl rfl
theorem zw_5_8 : (Jvm.Cond.code ({ cls := "Residueworks$Row", name := "append", desc := "(B)V" } : Jvm.MethodName) prog_6_method_3_code (2 : Nat) (Option.none : Option Jvm.ClassFile.FieldType)) ∈ zTg := zt_5 (i := 8) rfl rfl
theorem zw_5_9 : (Jvm.Cond.methodLink "ResidueworksLaw" (230 : Nat) ({ cls := "ResidueworksLaw", name := "fromRow", desc := "(LResidueworks;I[J)I" } : Jvm.MethodName)) ∈ zTg := zt_5 (i := 9) rfl rfl
theorem zw_5_10 : (Jvm.Cond.static ({ cls := "ResidueworksLaw", name := "fromRow", desc := "(LResidueworks;I[J)I" } : Jvm.MethodName)) ∈ zTg := zt_5 (i := 10) rfl rfl
theorem zw_5_11 : (Jvm.Cond.codeWith ({ cls := "ResidueworksLaw", name := "fromRow", desc := "(LResidueworks;I[J)I" } : Jvm.MethodName) method_22_code (4 : Nat) (Option.some Jvm.ClassFile.FieldType.int) [((0 : Nat), (9 : Nat), (12 : Nat), (13 : Nat)), ((0 : Nat), (9 : Nat), (15 : Nat), (18 : Nat))]) ∈ zTg := zt_5 (i := 11) rfl rfl
theorem zw_5_12 : (Jvm.Cond.methodLink "ResidueworksLaw" (87 : Nat) ({ cls := "Residueworks", name := "fromRow", desc := "(I)I" } : Jvm.MethodName)) ∈ zTg := zt_5 (i := 12) rfl rfl
theorem zw_5_13 : (Jvm.Cond.instanceMethod ({ cls := "Residueworks", name := "fromRow", desc := "(I)I" } : Jvm.MethodName)) ∈ zTg := zt_5 (i := 13) rfl rfl
theorem zw_5_14 : (Jvm.Cond.selects "Residueworks" ({ cls := "Residueworks", name := "fromRow", desc := "(I)I" } : Jvm.MethodName) ({ cls := "Residueworks", name := "fromRow", desc := "(I)I" } : Jvm.MethodName)) ∈ zTg := zt_5 (i := 14) rfl rfl
theorem zw_5_15 : (Jvm.Cond.code ({ cls := "Residueworks", name := "fromRow", desc := "(I)I" } : Jvm.MethodName) prog_1_method_23_code (3 : Nat) (Option.some Jvm.ClassFile.FieldType.int)) ∈ zTg := zt_5 (i := 15) rfl rfl
theorem zw_5_17 : (Jvm.Cond.instanceMethod ({ cls := "Residueworks$Row", name := "tellNumber", desc := "(LResidueworks$Whole;)V" } : Jvm.MethodName)) ∈ zTg := zt_5 (i := 17) rfl rfl
theorem zw_5_18 : (Jvm.Cond.selects "Residueworks$Row" ({ cls := "Residueworks$Row", name := "tellNumber", desc := "(LResidueworks$Whole;)V" } : Jvm.MethodName) ({ cls := "Residueworks$Row", name := "tellNumber", desc := "(LResidueworks$Whole;)V" } : Jvm.MethodName)) ∈ zTg := zt_5 (i := 18) rfl rfl
theorem zw_5_19 : (Jvm.Cond.code ({ cls := "Residueworks$Row", name := "tellNumber", desc := "(LResidueworks$Whole;)V" } : Jvm.MethodName) prog_6_method_6_code (3 : Nat) (Option.none : Option Jvm.ClassFile.FieldType)) ∈ zTg := zt_5 (i := 19) rfl rfl
theorem zw_5_20 : (Jvm.Cond.methodLink "Residueworks$Row" (36 : Nat) ({ cls := "Residueworks$Whole", name := "becomeLong", desc := "(J)V" } : Jvm.MethodName)) ∈ zTg := zt_5 (i := 20) rfl rfl
theorem zw_5_21 : (Jvm.Cond.methodLink "Residueworks$Row" (40 : Nat) ({ cls := "Residueworks$Row", name := "at", desc := "(I)I" } : Jvm.MethodName)) ∈ zTg := zt_5 (i := 21) rfl rfl
theorem zw_5_22 : (Jvm.Cond.methodLink "Residueworks$Row" (44 : Nat) ({ cls := "Residueworks$Whole", name := "grow", desc := "(II)V" } : Jvm.MethodName)) ∈ zTg := zt_5 (i := 22) rfl rfl
theorem zw_5_25 : (Jvm.Cond.methodLink "ResidueworksLaw" (233 : Nat) ({ cls := "ResidueworksLaw", name := "toRow", desc := "(LResidueworks;I[J)I" } : Jvm.MethodName)) ∈ zTg := zt_5 (i := 25) rfl rfl
theorem zw_5_26 : (Jvm.Cond.static ({ cls := "ResidueworksLaw", name := "toRow", desc := "(LResidueworks;I[J)I" } : Jvm.MethodName)) ∈ zTg := zt_5 (i := 26) rfl rfl
theorem zw_5_27 : (Jvm.Cond.codeWith ({ cls := "ResidueworksLaw", name := "toRow", desc := "(LResidueworks;I[J)I" } : Jvm.MethodName) method_23_code (4 : Nat) (Option.some Jvm.ClassFile.FieldType.int) [((0 : Nat), (9 : Nat), (12 : Nat), (13 : Nat))]) ∈ zTg := zt_5 (i := 27) rfl rfl
theorem zw_5_28 : (Jvm.Cond.methodLink "ResidueworksLaw" (90 : Nat) ({ cls := "Residueworks", name := "toRow", desc := "(I)I" } : Jvm.MethodName)) ∈ zTg := zt_5 (i := 28) rfl rfl
theorem zw_5_29 : (Jvm.Cond.instanceMethod ({ cls := "Residueworks", name := "toRow", desc := "(I)I" } : Jvm.MethodName)) ∈ zTg := zt_5 (i := 29) rfl rfl
theorem zw_5_30 : (Jvm.Cond.selects "Residueworks" ({ cls := "Residueworks", name := "toRow", desc := "(I)I" } : Jvm.MethodName) ({ cls := "Residueworks", name := "toRow", desc := "(I)I" } : Jvm.MethodName)) ∈ zTg := zt_5 (i := 30) rfl rfl
theorem zw_5_31 : (Jvm.Cond.code ({ cls := "Residueworks", name := "toRow", desc := "(I)I" } : Jvm.MethodName) prog_1_method_24_code (2 : Nat) (Option.some Jvm.ClassFile.FieldType.int)) ∈ zTg := zt_5 (i := 31) rfl rfl
theorem zw_5_32 : (Jvm.Cond.methodLink "Residueworks" (234 : Nat) ({ cls := "Residueworks$Row", name := "show", desc := "(LResidueworks$Whole;)V" } : Jvm.MethodName)) ∈ zTg := zt_5 (i := 32) rfl rfl
theorem zw_5_33 : (Jvm.Cond.instanceMethod ({ cls := "Residueworks$Row", name := "show", desc := "(LResidueworks$Whole;)V" } : Jvm.MethodName)) ∈ zTg := zt_5 (i := 33) rfl rfl
theorem zw_5_34 : (Jvm.Cond.selects "Residueworks$Row" ({ cls := "Residueworks$Row", name := "show", desc := "(LResidueworks$Whole;)V" } : Jvm.MethodName) ({ cls := "Residueworks$Row", name := "show", desc := "(LResidueworks$Whole;)V" } : Jvm.MethodName)) ∈ zTg := zt_5 (i := 34) rfl rfl
theorem zw_5_35 : (Jvm.Cond.code ({ cls := "Residueworks$Row", name := "show", desc := "(LResidueworks$Whole;)V" } : Jvm.MethodName) prog_6_method_5_code (3 : Nat) (Option.none : Option Jvm.ClassFile.FieldType)) ∈ zTg := zt_5 (i := 35) rfl rfl
theorem zw_5_36 : (Jvm.Cond.methodLink "Residueworks$Row" (24 : Nat) ({ cls := "Residueworks$Whole", name := "bitLength", desc := "()I" } : Jvm.MethodName)) ∈ zTg := zt_5 (i := 36) rfl rfl
theorem zw_5_37 : (Jvm.Cond.methodLink "Residueworks$Row" (28 : Nat) ({ cls := "Residueworks$Whole", name := "window", desc := "(I)J" } : Jvm.MethodName)) ∈ zTg := zt_5 (i := 37) rfl rfl
theorem zw_5_38 : (Jvm.Cond.methodLink "Residueworks$Row" (32 : Nat) ({ cls := "Residueworks$Row", name := "append", desc := "(B)V" } : Jvm.MethodName)) ∈ zTg := zt_5 (i := 38) rfl rfl
theorem zw_5_39 : (Jvm.Cond.methodLink "ResidueworksLaw" (236 : Nat) ({ cls := "ResidueworksLaw", name := "byteAt", desc := "(LResidueworks;I[J)I" } : Jvm.MethodName)) ∈ zTg := zt_5 (i := 39) rfl rfl
theorem zw_5_40 : (Jvm.Cond.static ({ cls := "ResidueworksLaw", name := "byteAt", desc := "(LResidueworks;I[J)I" } : Jvm.MethodName)) ∈ zTg := zt_5 (i := 40) rfl rfl
theorem zw_5_41 : (Jvm.Cond.codeWith ({ cls := "ResidueworksLaw", name := "byteAt", desc := "(LResidueworks;I[J)I" } : Jvm.MethodName) method_24_code (4 : Nat) (Option.some Jvm.ClassFile.FieldType.int) [((0 : Nat), (9 : Nat), (12 : Nat), (13 : Nat))]) ∈ zTg := zt_5 (i := 41) rfl rfl
theorem zw_5_42 : (Jvm.Cond.methodLink "ResidueworksLaw" (93 : Nat) ({ cls := "Residueworks", name := "byteAt", desc := "(I)I" } : Jvm.MethodName)) ∈ zTg := zt_5 (i := 42) rfl rfl
theorem zw_5_43 : (Jvm.Cond.instanceMethod ({ cls := "Residueworks", name := "byteAt", desc := "(I)I" } : Jvm.MethodName)) ∈ zTg := zt_5 (i := 43) rfl rfl
theorem zw_5_44 : (Jvm.Cond.selects "Residueworks" ({ cls := "Residueworks", name := "byteAt", desc := "(I)I" } : Jvm.MethodName) ({ cls := "Residueworks", name := "byteAt", desc := "(I)I" } : Jvm.MethodName)) ∈ zTg := zt_5 (i := 44) rfl rfl
theorem zw_5_45 : (Jvm.Cond.code ({ cls := "Residueworks", name := "byteAt", desc := "(I)I" } : Jvm.MethodName) prog_1_method_25_code (2 : Nat) (Option.some Jvm.ClassFile.FieldType.int)) ∈ zTg := zt_5 (i := 45) rfl rfl
theorem zw_5_46 : (Jvm.Cond.methodLink "ResidueworksLaw" (239 : Nat) ({ cls := "ResidueworksLaw", name := "modPower", desc := "(LResidueworks;IIII[J)I" } : Jvm.MethodName)) ∈ zTg := zt_5 (i := 46) rfl rfl
theorem zw_5_47 : (Jvm.Cond.static ({ cls := "ResidueworksLaw", name := "modPower", desc := "(LResidueworks;IIII[J)I" } : Jvm.MethodName)) ∈ zTg := zt_5 (i := 47) rfl rfl
theorem zw_5_48 : (Jvm.Cond.codeWith ({ cls := "ResidueworksLaw", name := "modPower", desc := "(LResidueworks;IIII[J)I" } : Jvm.MethodName) method_25_code (7 : Nat) (Option.some Jvm.ClassFile.FieldType.int) [((0 : Nat), (14 : Nat), (17 : Nat), (13 : Nat)), ((0 : Nat), (14 : Nat), (21 : Nat), (38 : Nat))]) ∈ zTg := zt_5 (i := 48) rfl rfl
theorem zw_5_49 : (Jvm.Cond.methodLink "ResidueworksLaw" (96 : Nat) ({ cls := "Residueworks", name := "modPower", desc := "(IIII)I" } : Jvm.MethodName)) ∈ zTg := zt_5 (i := 49) rfl rfl
theorem zw_5_50 : (Jvm.Cond.instanceMethod ({ cls := "Residueworks", name := "modPower", desc := "(IIII)I" } : Jvm.MethodName)) ∈ zTg := zt_5 (i := 50) rfl rfl
theorem zw_5_51 : (Jvm.Cond.selects "Residueworks" ({ cls := "Residueworks", name := "modPower", desc := "(IIII)I" } : Jvm.MethodName) ({ cls := "Residueworks", name := "modPower", desc := "(IIII)I" } : Jvm.MethodName)) ∈ zTg := zt_5 (i := 51) rfl rfl
theorem zw_5_52 : (Jvm.Cond.code ({ cls := "Residueworks", name := "modPower", desc := "(IIII)I" } : Jvm.MethodName) prog_1_method_26_code (9 : Nat) (Option.some Jvm.ClassFile.FieldType.int)) ∈ zTg := zt_5 (i := 52) rfl rfl
theorem zw_5_57 : (Jvm.Cond.methodLink "Residueworks$Residues" (50 : Nat) ({ cls := "Residueworks$Division", name := "reduce", desc := "(LResidueworks$Whole;LResidueworks$Whole;)V" } : Jvm.MethodName)) ∈ zTg := zt_5 (i := 57) rfl rfl
theorem zw_5_59 : (Jvm.Cond.methodLink "Residueworks$Residues" (92 : Nat) ({ cls := "Residueworks$Whole", name := "isOne", desc := "()Z" } : Jvm.MethodName)) ∈ zTg := zt_5 (i := 59) rfl rfl
theorem zw_5_60 : (Jvm.Cond.instanceMethod ({ cls := "Residueworks$Whole", name := "isOne", desc := "()Z" } : Jvm.MethodName)) ∈ zTg := zt_5 (i := 60) rfl rfl
theorem zw_5_61 : (Jvm.Cond.selects "Residueworks$Whole" ({ cls := "Residueworks$Whole", name := "isOne", desc := "()Z" } : Jvm.MethodName) ({ cls := "Residueworks$Whole", name := "isOne", desc := "()Z" } : Jvm.MethodName)) ∈ zTg := zt_5 (i := 61) rfl rfl
theorem zw_5_62 : (Jvm.Cond.code ({ cls := "Residueworks$Whole", name := "isOne", desc := "()Z" } : Jvm.MethodName) prog_10_method_10_code (1 : Nat) (Option.some Jvm.ClassFile.FieldType.boolean)) ∈ zTg := zt_5 (i := 62) rfl rfl
theorem zw_5_77 : (Jvm.Cond.methodLink "ResidueworksLaw" (242 : Nat) ({ cls := "ResidueworksLaw", name := "inverse", desc := "(LResidueworks;III[J)I" } : Jvm.MethodName)) ∈ zTg := zt_5 (i := 77) rfl rfl
theorem zw_5_78 : (Jvm.Cond.static ({ cls := "ResidueworksLaw", name := "inverse", desc := "(LResidueworks;III[J)I" } : Jvm.MethodName)) ∈ zTg := zt_5 (i := 78) rfl rfl
theorem zw_5_79 : (Jvm.Cond.codeWith ({ cls := "ResidueworksLaw", name := "inverse", desc := "(LResidueworks;III[J)I" } : Jvm.MethodName) method_26_code (6 : Nat) (Option.some Jvm.ClassFile.FieldType.int) [((0 : Nat), (12 : Nat), (15 : Nat), (13 : Nat)), ((0 : Nat), (12 : Nat), (19 : Nat), (38 : Nat))]) ∈ zTg := zt_5 (i := 79) rfl rfl
theorem zw_5_80 : (Jvm.Cond.methodLink "ResidueworksLaw" (99 : Nat) ({ cls := "Residueworks", name := "inverse", desc := "(III)I" } : Jvm.MethodName)) ∈ zTg := zt_5 (i := 80) rfl rfl
theorem zw_5_81 : (Jvm.Cond.instanceMethod ({ cls := "Residueworks", name := "inverse", desc := "(III)I" } : Jvm.MethodName)) ∈ zTg := zt_5 (i := 81) rfl rfl
theorem zw_5_82 : (Jvm.Cond.selects "Residueworks" ({ cls := "Residueworks", name := "inverse", desc := "(III)I" } : Jvm.MethodName) ({ cls := "Residueworks", name := "inverse", desc := "(III)I" } : Jvm.MethodName)) ∈ zTg := zt_5 (i := 82) rfl rfl
theorem zw_5_83 : (Jvm.Cond.code ({ cls := "Residueworks", name := "inverse", desc := "(III)I" } : Jvm.MethodName) prog_1_method_27_code (7 : Nat) (Option.some Jvm.ClassFile.FieldType.int)) ∈ zTg := zt_5 (i := 83) rfl rfl
theorem zw_5_84 : (Jvm.Cond.methodLink "ResidueworksLaw" (245 : Nat) ({ cls := "ResidueworksLaw", name := "symbol", desc := "(LResidueworks;II[J)I" } : Jvm.MethodName)) ∈ zTg := zt_5 (i := 84) rfl rfl
theorem zw_5_85 : (Jvm.Cond.static ({ cls := "ResidueworksLaw", name := "symbol", desc := "(LResidueworks;II[J)I" } : Jvm.MethodName)) ∈ zTg := zt_5 (i := 85) rfl rfl
theorem zw_5_86 : (Jvm.Cond.codeWith ({ cls := "ResidueworksLaw", name := "symbol", desc := "(LResidueworks;II[J)I" } : Jvm.MethodName) method_27_code (5 : Nat) (Option.some Jvm.ClassFile.FieldType.int) [((0 : Nat), (10 : Nat), (13 : Nat), (13 : Nat)), ((0 : Nat), (10 : Nat), (17 : Nat), (38 : Nat))]) ∈ zTg := zt_5 (i := 86) rfl rfl
theorem zw_5_87 : (Jvm.Cond.methodLink "ResidueworksLaw" (102 : Nat) ({ cls := "Residueworks", name := "symbol", desc := "(II)I" } : Jvm.MethodName)) ∈ zTg := zt_5 (i := 87) rfl rfl
theorem zw_5_88 : (Jvm.Cond.instanceMethod ({ cls := "Residueworks", name := "symbol", desc := "(II)I" } : Jvm.MethodName)) ∈ zTg := zt_5 (i := 88) rfl rfl
theorem zw_5_89 : (Jvm.Cond.selects "Residueworks" ({ cls := "Residueworks", name := "symbol", desc := "(II)I" } : Jvm.MethodName) ({ cls := "Residueworks", name := "symbol", desc := "(II)I" } : Jvm.MethodName)) ∈ zTg := zt_5 (i := 89) rfl rfl
theorem zw_5_90 : (Jvm.Cond.code ({ cls := "Residueworks", name := "symbol", desc := "(II)I" } : Jvm.MethodName) prog_1_method_28_code (5 : Nat) (Option.some Jvm.ClassFile.FieldType.int)) ∈ zTg := zt_5 (i := 90) rfl rfl
theorem zw_5_93 : (Jvm.Cond.instanceMethod ({ cls := "Residueworks$Residues", name := "symbolOf", desc := "(LResidueworks$Whole;LResidueworks$Whole;)I" } : Jvm.MethodName)) ∈ zTg := zt_5 (i := 93) rfl rfl
theorem zw_5_94 : (Jvm.Cond.selects "Residueworks$Residues" ({ cls := "Residueworks$Residues", name := "symbolOf", desc := "(LResidueworks$Whole;LResidueworks$Whole;)I" } : Jvm.MethodName) ({ cls := "Residueworks$Residues", name := "symbolOf", desc := "(LResidueworks$Whole;LResidueworks$Whole;)I" } : Jvm.MethodName)) ∈ zTg := zt_5 (i := 94) rfl rfl
theorem zw_5_95 : (Jvm.Cond.code ({ cls := "Residueworks$Residues", name := "symbolOf", desc := "(LResidueworks$Whole;LResidueworks$Whole;)I" } : Jvm.MethodName) prog_4_method_7_code (10 : Nat) (Option.some Jvm.ClassFile.FieldType.int)) ∈ zTg := zt_5 (i := 95) rfl rfl
theorem zw_5_99 : (Jvm.Cond.methodLink "ResidueworksLaw" (248 : Nat) ({ cls := "ResidueworksLaw", name := "units", desc := "(LResidueworks;I[J)I" } : Jvm.MethodName)) ∈ zTg := zt_5 (i := 99) rfl rfl
theorem zw_5_100 : (Jvm.Cond.static ({ cls := "ResidueworksLaw", name := "units", desc := "(LResidueworks;I[J)I" } : Jvm.MethodName)) ∈ zTg := zt_5 (i := 100) rfl rfl
theorem zw_5_101 : (Jvm.Cond.codeWith ({ cls := "ResidueworksLaw", name := "units", desc := "(LResidueworks;I[J)I" } : Jvm.MethodName) method_28_code (4 : Nat) (Option.some Jvm.ClassFile.FieldType.int) [((0 : Nat), (9 : Nat), (12 : Nat), (13 : Nat)), ((0 : Nat), (9 : Nat), (15 : Nat), (38 : Nat))]) ∈ zTg := zt_5 (i := 101) rfl rfl
theorem zw_5_102 : (Jvm.Cond.methodLink "ResidueworksLaw" (105 : Nat) ({ cls := "Residueworks", name := "units", desc := "(I)I" } : Jvm.MethodName)) ∈ zTg := zt_5 (i := 102) rfl rfl
theorem zw_5_103 : (Jvm.Cond.instanceMethod ({ cls := "Residueworks", name := "units", desc := "(I)I" } : Jvm.MethodName)) ∈ zTg := zt_5 (i := 103) rfl rfl
theorem zw_5_104 : (Jvm.Cond.selects "Residueworks" ({ cls := "Residueworks", name := "units", desc := "(I)I" } : Jvm.MethodName) ({ cls := "Residueworks", name := "units", desc := "(I)I" } : Jvm.MethodName)) ∈ zTg := zt_5 (i := 104) rfl rfl
theorem zw_5_105 : (Jvm.Cond.code ({ cls := "Residueworks", name := "units", desc := "(I)I" } : Jvm.MethodName) prog_1_method_29_code (2 : Nat) (Option.some Jvm.ClassFile.FieldType.int)) ∈ zTg := zt_5 (i := 105) rfl rfl
theorem zw_5_106 : (Jvm.Cond.methodLink "Residueworks" (257 : Nat) ({ cls := "Residueworks", name := "smallModulus", desc := "(I)I" } : Jvm.MethodName)) ∈ zTg := zt_5 (i := 106) rfl rfl
theorem zw_5_108 : (Jvm.Cond.instanceMethod ({ cls := "Residueworks", name := "smallModulus", desc := "(I)I" } : Jvm.MethodName)) ∈ zTg := zt_5 (i := 108) rfl rfl
theorem zw_5_109 : (Jvm.Cond.code ({ cls := "Residueworks", name := "smallModulus", desc := "(I)I" } : Jvm.MethodName) prog_1_method_45_code (3 : Nat) (Option.some Jvm.ClassFile.FieldType.int)) ∈ zTg := zt_5 (i := 109) rfl rfl
theorem zw_5_110 : (Jvm.Cond.methodLink "Residueworks" (279 : Nat) ({ cls := "Residueworks$Whole", name := "within", desc := "(II)I" } : Jvm.MethodName)) ∈ zTg := zt_5 (i := 110) rfl rfl
theorem zw_5_111 : (Jvm.Cond.instanceMethod ({ cls := "Residueworks$Whole", name := "within", desc := "(II)I" } : Jvm.MethodName)) ∈ zTg := zt_5 (i := 111) rfl rfl
theorem zw_5_112 : (Jvm.Cond.selects "Residueworks$Whole" ({ cls := "Residueworks$Whole", name := "within", desc := "(II)I" } : Jvm.MethodName) ({ cls := "Residueworks$Whole", name := "within", desc := "(II)I" } : Jvm.MethodName)) ∈ zTg := zt_5 (i := 112) rfl rfl
theorem zw_5_113 : (Jvm.Cond.code ({ cls := "Residueworks$Whole", name := "within", desc := "(II)I" } : Jvm.MethodName) prog_10_method_12_code (3 : Nat) (Option.some Jvm.ClassFile.FieldType.int)) ∈ zTg := zt_5 (i := 113) rfl rfl
theorem zw_5_121 : (Jvm.Cond.methodLink "ResidueworksLaw" (251 : Nat) ({ cls := "ResidueworksLaw", name := "order", desc := "(LResidueworks;II[J)I" } : Jvm.MethodName)) ∈ zTg := zt_5 (i := 121) rfl rfl
theorem zw_5_122 : (Jvm.Cond.static ({ cls := "ResidueworksLaw", name := "order", desc := "(LResidueworks;II[J)I" } : Jvm.MethodName)) ∈ zTg := zt_5 (i := 122) rfl rfl
theorem zw_5_123 : (Jvm.Cond.codeWith ({ cls := "ResidueworksLaw", name := "order", desc := "(LResidueworks;II[J)I" } : Jvm.MethodName) method_29_code (5 : Nat) (Option.some Jvm.ClassFile.FieldType.int) [((0 : Nat), (10 : Nat), (13 : Nat), (13 : Nat)), ((0 : Nat), (10 : Nat), (17 : Nat), (38 : Nat))]) ∈ zTg := zt_5 (i := 123) rfl rfl
theorem zw_5_124 : (Jvm.Cond.methodLink "ResidueworksLaw" (108 : Nat) ({ cls := "Residueworks", name := "order", desc := "(II)I" } : Jvm.MethodName)) ∈ zTg := zt_5 (i := 124) rfl rfl
theorem zw_5_125 : (Jvm.Cond.instanceMethod ({ cls := "Residueworks", name := "order", desc := "(II)I" } : Jvm.MethodName)) ∈ zTg := zt_5 (i := 125) rfl rfl
theorem zw_5_126 : (Jvm.Cond.selects "Residueworks" ({ cls := "Residueworks", name := "order", desc := "(II)I" } : Jvm.MethodName) ({ cls := "Residueworks", name := "order", desc := "(II)I" } : Jvm.MethodName)) ∈ zTg := zt_5 (i := 126) rfl rfl
theorem zw_5_127 : (Jvm.Cond.code ({ cls := "Residueworks", name := "order", desc := "(II)I" } : Jvm.MethodName) prog_1_method_30_code (6 : Nat) (Option.some Jvm.ClassFile.FieldType.int)) ∈ zTg := zt_5 (i := 127) rfl rfl
theorem zw_5_129 : (Jvm.Cond.instanceMethod ({ cls := "Residueworks$Whole", name := "leaves", desc := "(I)I" } : Jvm.MethodName)) ∈ zTg := zt_5 (i := 129) rfl rfl
theorem zw_5_130 : (Jvm.Cond.selects "Residueworks$Whole" ({ cls := "Residueworks$Whole", name := "leaves", desc := "(I)I" } : Jvm.MethodName) ({ cls := "Residueworks$Whole", name := "leaves", desc := "(I)I" } : Jvm.MethodName)) ∈ zTg := zt_5 (i := 130) rfl rfl
theorem zw_5_131 : (Jvm.Cond.code ({ cls := "Residueworks$Whole", name := "leaves", desc := "(I)I" } : Jvm.MethodName) prog_10_method_33_code (5 : Nat) (Option.some Jvm.ClassFile.FieldType.int)) ∈ zTg := zt_5 (i := 131) rfl rfl
theorem zw_5_138 : (Jvm.Cond.methodLink "ResidueworksLaw" (254 : Nat) ({ cls := "ResidueworksLaw", name := "generator", desc := "(LResidueworks;I[J)I" } : Jvm.MethodName)) ∈ zTg := zt_5 (i := 138) rfl rfl
theorem zw_5_139 : (Jvm.Cond.static ({ cls := "ResidueworksLaw", name := "generator", desc := "(LResidueworks;I[J)I" } : Jvm.MethodName)) ∈ zTg := zt_5 (i := 139) rfl rfl
theorem zw_5_140 : (Jvm.Cond.codeWith ({ cls := "ResidueworksLaw", name := "generator", desc := "(LResidueworks;I[J)I" } : Jvm.MethodName) method_30_code (4 : Nat) (Option.some Jvm.ClassFile.FieldType.int) [((0 : Nat), (9 : Nat), (12 : Nat), (13 : Nat)), ((0 : Nat), (9 : Nat), (15 : Nat), (38 : Nat))]) ∈ zTg := zt_5 (i := 140) rfl rfl
theorem zw_5_141 : (Jvm.Cond.methodLink "ResidueworksLaw" (111 : Nat) ({ cls := "Residueworks", name := "generator", desc := "(I)I" } : Jvm.MethodName)) ∈ zTg := zt_5 (i := 141) rfl rfl
theorem zw_5_142 : (Jvm.Cond.instanceMethod ({ cls := "Residueworks", name := "generator", desc := "(I)I" } : Jvm.MethodName)) ∈ zTg := zt_5 (i := 142) rfl rfl
theorem zw_5_143 : (Jvm.Cond.selects "Residueworks" ({ cls := "Residueworks", name := "generator", desc := "(I)I" } : Jvm.MethodName) ({ cls := "Residueworks", name := "generator", desc := "(I)I" } : Jvm.MethodName)) ∈ zTg := zt_5 (i := 143) rfl rfl
theorem zw_5_144 : (Jvm.Cond.code ({ cls := "Residueworks", name := "generator", desc := "(I)I" } : Jvm.MethodName) prog_1_method_31_code (2 : Nat) (Option.some Jvm.ClassFile.FieldType.int)) ∈ zTg := zt_5 (i := 144) rfl rfl
theorem zw_5_154 : (Jvm.Cond.methodLink "ResidueworksLaw" (257 : Nat) ({ cls := "ResidueworksLaw", name := "isPrime", desc := "(LResidueworks;I[J)I" } : Jvm.MethodName)) ∈ zTg := zt_5 (i := 154) rfl rfl
theorem zw_5_155 : (Jvm.Cond.static ({ cls := "ResidueworksLaw", name := "isPrime", desc := "(LResidueworks;I[J)I" } : Jvm.MethodName)) ∈ zTg := zt_5 (i := 155) rfl rfl
theorem zw_5_156 : (Jvm.Cond.codeWith ({ cls := "ResidueworksLaw", name := "isPrime", desc := "(LResidueworks;I[J)I" } : Jvm.MethodName) method_31_code (4 : Nat) (Option.some Jvm.ClassFile.FieldType.int) [((0 : Nat), (16 : Nat), (19 : Nat), (13 : Nat)), ((0 : Nat), (16 : Nat), (22 : Nat), (38 : Nat))]) ∈ zTg := zt_5 (i := 156) rfl rfl
theorem zw_5_157 : (Jvm.Cond.methodLink "ResidueworksLaw" (114 : Nat) ({ cls := "Residueworks", name := "isPrime", desc := "(I)Z" } : Jvm.MethodName)) ∈ zTg := zt_5 (i := 157) rfl rfl
theorem zw_5_158 : (Jvm.Cond.instanceMethod ({ cls := "Residueworks", name := "isPrime", desc := "(I)Z" } : Jvm.MethodName)) ∈ zTg := zt_5 (i := 158) rfl rfl
theorem zw_5_159 : (Jvm.Cond.selects "Residueworks" ({ cls := "Residueworks", name := "isPrime", desc := "(I)Z" } : Jvm.MethodName) ({ cls := "Residueworks", name := "isPrime", desc := "(I)Z" } : Jvm.MethodName)) ∈ zTg := zt_5 (i := 159) rfl rfl
theorem zw_5_160 : (Jvm.Cond.code ({ cls := "Residueworks", name := "isPrime", desc := "(I)Z" } : Jvm.MethodName) prog_1_method_32_code (3 : Nat) (Option.some Jvm.ClassFile.FieldType.boolean)) ∈ zTg := zt_5 (i := 160) rfl rfl
theorem zw_5_161 : (Jvm.Cond.constant "Residueworks" (278 : Nat) (1048575 : Int32)) ∈ zTg := zt_5 (i := 161) rfl rfl
theorem zw_5_163 : (Jvm.Cond.methodLink "Residueworks" (284 : Nat) ({ cls := "Residueworks$Small", name := "primeNumber", desc := "(I)Z" } : Jvm.MethodName)) ∈ zTg := zt_5 (i := 163) rfl rfl
theorem zw_5_164 : (Jvm.Cond.static ({ cls := "Residueworks$Small", name := "primeNumber", desc := "(I)Z" } : Jvm.MethodName)) ∈ zTg := zt_5 (i := 164) rfl rfl
theorem zw_5_165 : (Jvm.Cond.code ({ cls := "Residueworks$Small", name := "primeNumber", desc := "(I)Z" } : Jvm.MethodName) prog_7_method_3_code (2 : Nat) (Option.some Jvm.ClassFile.FieldType.boolean)) ∈ zTg := zt_5 (i := 165) rfl rfl
theorem zw_5_166 : (Jvm.Cond.methodLink "ResidueworksLaw" (260 : Nat) ({ cls := "ResidueworksLaw", name := "modRoot", desc := "(LResidueworks;III[J)I" } : Jvm.MethodName)) ∈ zTg := zt_5 (i := 166) rfl rfl
theorem zw_5_167 : (Jvm.Cond.static ({ cls := "ResidueworksLaw", name := "modRoot", desc := "(LResidueworks;III[J)I" } : Jvm.MethodName)) ∈ zTg := zt_5 (i := 167) rfl rfl
theorem zw_5_168 : (Jvm.Cond.codeWith ({ cls := "ResidueworksLaw", name := "modRoot", desc := "(LResidueworks;III[J)I" } : Jvm.MethodName) method_32_code (6 : Nat) (Option.some Jvm.ClassFile.FieldType.int) [((0 : Nat), (12 : Nat), (15 : Nat), (13 : Nat)), ((0 : Nat), (12 : Nat), (19 : Nat), (38 : Nat)), ((0 : Nat), (12 : Nat), (23 : Nat), (121 : Nat))]) ∈ zTg := zt_5 (i := 168) rfl rfl
theorem zw_5_169 : (Jvm.Cond.classLink "ResidueworksLaw" (121 : Nat) "java/util/NoSuchElementException") ∈ zTg := zt_5 (i := 169) rfl rfl
theorem zw_5_170 : (Jvm.Cond.methodLink "ResidueworksLaw" (118 : Nat) ({ cls := "Residueworks", name := "modRoot", desc := "(III)I" } : Jvm.MethodName)) ∈ zTg := zt_5 (i := 170) rfl rfl
theorem zw_5_171 : (Jvm.Cond.instanceMethod ({ cls := "Residueworks", name := "modRoot", desc := "(III)I" } : Jvm.MethodName)) ∈ zTg := zt_5 (i := 171) rfl rfl
theorem zw_5_172 : (Jvm.Cond.selects "Residueworks" ({ cls := "Residueworks", name := "modRoot", desc := "(III)I" } : Jvm.MethodName) ({ cls := "Residueworks", name := "modRoot", desc := "(III)I" } : Jvm.MethodName)) ∈ zTg := zt_5 (i := 172) rfl rfl
theorem zw_5_173 : (Jvm.Cond.code ({ cls := "Residueworks", name := "modRoot", desc := "(III)I" } : Jvm.MethodName) prog_1_method_33_code (8 : Nat) (Option.some Jvm.ClassFile.FieldType.int)) ∈ zTg := zt_5 (i := 173) rfl rfl
theorem zw_5_189 : (Jvm.Cond.castable "java/util/NoSuchElementException" "java/util/NoSuchElementException") ∈ zTn := zn_5 (i := 189) rfl rfl
theorem zw_5_203 : (Jvm.Cond.methodLink "ResidueworksLaw" (263 : Nat) ({ cls := "ResidueworksLaw", name := "condition", desc := "(LResidueworks;II[J)I" } : Jvm.MethodName)) ∈ zTg := zt_5 (i := 203) rfl rfl
theorem zw_5_204 : (Jvm.Cond.static ({ cls := "ResidueworksLaw", name := "condition", desc := "(LResidueworks;II[J)I" } : Jvm.MethodName)) ∈ zTg := zt_5 (i := 204) rfl rfl
theorem zw_5_205 : (Jvm.Cond.codeWith ({ cls := "ResidueworksLaw", name := "condition", desc := "(LResidueworks;II[J)I" } : Jvm.MethodName) method_33_code (5 : Nat) (Option.some Jvm.ClassFile.FieldType.int) [((0 : Nat), (10 : Nat), (13 : Nat), (13 : Nat)), ((0 : Nat), (10 : Nat), (17 : Nat), (38 : Nat)), ((0 : Nat), (10 : Nat), (21 : Nat), (18 : Nat))]) ∈ zTg := zt_5 (i := 205) rfl rfl
theorem zw_5_206 : (Jvm.Cond.methodLink "ResidueworksLaw" (123 : Nat) ({ cls := "Residueworks", name := "condition", desc := "(II)I" } : Jvm.MethodName)) ∈ zTg := zt_5 (i := 206) rfl rfl
theorem zw_5_207 : (Jvm.Cond.instanceMethod ({ cls := "Residueworks", name := "condition", desc := "(II)I" } : Jvm.MethodName)) ∈ zTg := zt_5 (i := 207) rfl rfl
theorem zw_5_208 : (Jvm.Cond.selects "Residueworks" ({ cls := "Residueworks", name := "condition", desc := "(II)I" } : Jvm.MethodName) ({ cls := "Residueworks", name := "condition", desc := "(II)I" } : Jvm.MethodName)) ∈ zTg := zt_5 (i := 208) rfl rfl
theorem zw_5_209 : (Jvm.Cond.code ({ cls := "Residueworks", name := "condition", desc := "(II)I" } : Jvm.MethodName) prog_1_method_34_code (5 : Nat) (Option.some Jvm.ClassFile.FieldType.int)) ∈ zTg := zt_5 (i := 209) rfl rfl
theorem zw_5_221 : (Jvm.Cond.methodLink "ResidueworksLaw" (266 : Nat) ({ cls := "ResidueworksLaw", name := "solve", desc := "(LResidueworks;II[J)I" } : Jvm.MethodName)) ∈ zTg := zt_5 (i := 221) rfl rfl
theorem zw_5_222 : (Jvm.Cond.static ({ cls := "ResidueworksLaw", name := "solve", desc := "(LResidueworks;II[J)I" } : Jvm.MethodName)) ∈ zTg := zt_5 (i := 222) rfl rfl
theorem zw_5_223 : (Jvm.Cond.codeWith ({ cls := "ResidueworksLaw", name := "solve", desc := "(LResidueworks;II[J)I" } : Jvm.MethodName) method_34_code (5 : Nat) (Option.some Jvm.ClassFile.FieldType.int) [((0 : Nat), (17 : Nat), (20 : Nat), (13 : Nat)), ((0 : Nat), (17 : Nat), (24 : Nat), (28 : Nat)), ((0 : Nat), (17 : Nat), (28 : Nat), (18 : Nat))]) ∈ zTg := zt_5 (i := 223) rfl rfl
theorem zw_5_224 : (Jvm.Cond.methodLink "ResidueworksLaw" (126 : Nat) ({ cls := "Residueworks", name := "solve", desc := "(II)Z" } : Jvm.MethodName)) ∈ zTg := zt_5 (i := 224) rfl rfl
theorem zw_5_225 : (Jvm.Cond.instanceMethod ({ cls := "Residueworks", name := "solve", desc := "(II)Z" } : Jvm.MethodName)) ∈ zTg := zt_5 (i := 225) rfl rfl
theorem zw_5_226 : (Jvm.Cond.selects "Residueworks" ({ cls := "Residueworks", name := "solve", desc := "(II)Z" } : Jvm.MethodName) ({ cls := "Residueworks", name := "solve", desc := "(II)Z" } : Jvm.MethodName)) ∈ zTg := zt_5 (i := 226) rfl rfl
theorem zw_5_227 : (Jvm.Cond.code ({ cls := "Residueworks", name := "solve", desc := "(II)Z" } : Jvm.MethodName) prog_1_method_35_code (5 : Nat) (Option.some Jvm.ClassFile.FieldType.boolean)) ∈ zTg := zt_5 (i := 227) rfl rfl
theorem zw_5_229 : (Jvm.Cond.methodLink "Residueworks" (307 : Nat) ({ cls := "Residueworks$Conditions", name := "agree", desc := "()Z" } : Jvm.MethodName)) ∈ zTg := zt_5 (i := 229) rfl rfl
theorem zw_5_230 : (Jvm.Cond.instanceMethod ({ cls := "Residueworks$Conditions", name := "agree", desc := "()Z" } : Jvm.MethodName)) ∈ zTg := zt_5 (i := 230) rfl rfl
theorem zw_5_231 : (Jvm.Cond.selects "Residueworks$Conditions" ({ cls := "Residueworks$Conditions", name := "agree", desc := "()Z" } : Jvm.MethodName) ({ cls := "Residueworks$Conditions", name := "agree", desc := "()Z" } : Jvm.MethodName)) ∈ zTg := zt_5 (i := 231) rfl rfl
theorem zw_5_232 : (Jvm.Cond.code ({ cls := "Residueworks$Conditions", name := "agree", desc := "()Z" } : Jvm.MethodName) prog_2_method_4_code (3 : Nat) (Option.some Jvm.ClassFile.FieldType.boolean)) ∈ zTg := zt_5 (i := 232) rfl rfl
theorem zw_5_236 : (Jvm.Cond.methodLink "Residueworks" (310 : Nat) ({ cls := "Residueworks$Conditions", name := "join", desc := "(I)Z" } : Jvm.MethodName)) ∈ zTg := zt_5 (i := 236) rfl rfl
theorem zw_5_237 : (Jvm.Cond.instanceMethod ({ cls := "Residueworks$Conditions", name := "join", desc := "(I)Z" } : Jvm.MethodName)) ∈ zTg := zt_5 (i := 237) rfl rfl
theorem zw_5_238 : (Jvm.Cond.selects "Residueworks$Conditions" ({ cls := "Residueworks$Conditions", name := "join", desc := "(I)Z" } : Jvm.MethodName) ({ cls := "Residueworks$Conditions", name := "join", desc := "(I)Z" } : Jvm.MethodName)) ∈ zTg := zt_5 (i := 238) rfl rfl
theorem zw_5_239 : (Jvm.Cond.code ({ cls := "Residueworks$Conditions", name := "join", desc := "(I)Z" } : Jvm.MethodName) prog_2_method_5_code (3 : Nat) (Option.some Jvm.ClassFile.FieldType.boolean)) ∈ zTg := zt_5 (i := 239) rfl rfl
theorem zws_6 : Cond.selects "Residueworks" ⟨"Residueworks", "reckonOfTwo", "(CLResidueworks$Whole;LResidueworks$Whole;)Z"⟩ ⟨"Residueworks", "reckonOfTwo", "(CLResidueworks$Whole;LResidueworks$Whole;)Z"⟩ ∈ zTg := zsel (i := 6) (q := (⟨"Residueworks", "reckonOfTwo", "(CLResidueworks$Whole;LResidueworks$Whole;)Z"⟩, 10)) (by decide +kernel)
theorem zw_6_0 : (Jvm.Cond.methodLink "Residueworks$Conditions" (85 : Nat) ({ cls := "Residueworks$Whole", name := "becomeLong", desc := "(J)V" } : Jvm.MethodName)) ∈ zTg := zt_6 (i := 0) rfl rfl
theorem zw_6_5 : (Jvm.Cond.methodLink "ResidueworksLaw" (273 : Nat) ({ cls := "ResidueworksLaw", name := "root", desc := "(LResidueworks;III[J)I" } : Jvm.MethodName)) ∈ zTg := zt_6 (i := 5) rfl rfl
theorem zw_6_6 : (Jvm.Cond.static ({ cls := "ResidueworksLaw", name := "root", desc := "(LResidueworks;III[J)I" } : Jvm.MethodName)) ∈ zTg := zt_6 (i := 6) rfl rfl
theorem zw_6_7 : (Jvm.Cond.codeWith ({ cls := "ResidueworksLaw", name := "root", desc := "(LResidueworks;III[J)I" } : Jvm.MethodName) method_35_code (6 : Nat) (Option.some Jvm.ClassFile.FieldType.int) [((0 : Nat), (12 : Nat), (15 : Nat), (13 : Nat)), ((0 : Nat), (12 : Nat), (19 : Nat), (28 : Nat)), ((0 : Nat), (12 : Nat), (23 : Nat), (38 : Nat))]) ∈ zTg := zt_6 (i := 7) rfl rfl
theorem zw_6_8 : (Jvm.Cond.methodLink "ResidueworksLaw" (129 : Nat) ({ cls := "Residueworks", name := "root", desc := "(III)I" } : Jvm.MethodName)) ∈ zTg := zt_6 (i := 8) rfl rfl
theorem zw_6_9 : (Jvm.Cond.instanceMethod ({ cls := "Residueworks", name := "root", desc := "(III)I" } : Jvm.MethodName)) ∈ zTg := zt_6 (i := 9) rfl rfl
theorem zw_6_10 : (Jvm.Cond.selects "Residueworks" ({ cls := "Residueworks", name := "root", desc := "(III)I" } : Jvm.MethodName) ({ cls := "Residueworks", name := "root", desc := "(III)I" } : Jvm.MethodName)) ∈ zTg := zt_6 (i := 10) rfl rfl
theorem zw_6_11 : (Jvm.Cond.code ({ cls := "Residueworks", name := "root", desc := "(III)I" } : Jvm.MethodName) prog_1_method_37_code (6 : Nat) (Option.some Jvm.ClassFile.FieldType.int)) ∈ zTg := zt_6 (i := 11) rfl rfl
theorem zw_6_12 : (Jvm.Cond.methodLink "ResidueworksLaw" (276 : Nat) ({ cls := "ResidueworksLaw", name := "perfect", desc := "(LResidueworks;I[J)I" } : Jvm.MethodName)) ∈ zTg := zt_6 (i := 12) rfl rfl
theorem zw_6_13 : (Jvm.Cond.static ({ cls := "ResidueworksLaw", name := "perfect", desc := "(LResidueworks;I[J)I" } : Jvm.MethodName)) ∈ zTg := zt_6 (i := 13) rfl rfl
theorem zw_6_14 : (Jvm.Cond.codeWith ({ cls := "ResidueworksLaw", name := "perfect", desc := "(LResidueworks;I[J)I" } : Jvm.MethodName) method_36_code (4 : Nat) (Option.some Jvm.ClassFile.FieldType.int) [((0 : Nat), (9 : Nat), (12 : Nat), (13 : Nat)), ((0 : Nat), (9 : Nat), (15 : Nat), (38 : Nat))]) ∈ zTg := zt_6 (i := 14) rfl rfl
theorem zw_6_15 : (Jvm.Cond.methodLink "ResidueworksLaw" (132 : Nat) ({ cls := "Residueworks", name := "perfect", desc := "(I)I" } : Jvm.MethodName)) ∈ zTg := zt_6 (i := 15) rfl rfl
theorem zw_6_16 : (Jvm.Cond.instanceMethod ({ cls := "Residueworks", name := "perfect", desc := "(I)I" } : Jvm.MethodName)) ∈ zTg := zt_6 (i := 16) rfl rfl
theorem zw_6_17 : (Jvm.Cond.selects "Residueworks" ({ cls := "Residueworks", name := "perfect", desc := "(I)I" } : Jvm.MethodName) ({ cls := "Residueworks", name := "perfect", desc := "(I)I" } : Jvm.MethodName)) ∈ zTg := zt_6 (i := 17) rfl rfl
theorem zw_6_18 : (Jvm.Cond.code ({ cls := "Residueworks", name := "perfect", desc := "(I)I" } : Jvm.MethodName) prog_1_method_38_code (3 : Nat) (Option.some Jvm.ClassFile.FieldType.int)) ∈ zTg := zt_6 (i := 18) rfl rfl
theorem zw_6_31 : (Jvm.Cond.instanceMethod ({ cls := "Residueworks$Whole", name := "isLike", desc := "(LResidueworks$Whole;)Z" } : Jvm.MethodName)) ∈ zTg := zt_6 (i := 31) rfl rfl
theorem zw_6_32 : (Jvm.Cond.selects "Residueworks$Whole" ({ cls := "Residueworks$Whole", name := "isLike", desc := "(LResidueworks$Whole;)Z" } : Jvm.MethodName) ({ cls := "Residueworks$Whole", name := "isLike", desc := "(LResidueworks$Whole;)Z" } : Jvm.MethodName)) ∈ zTg := zt_6 (i := 32) rfl rfl
theorem zw_6_33 : (Jvm.Cond.code ({ cls := "Residueworks$Whole", name := "isLike", desc := "(LResidueworks$Whole;)Z" } : Jvm.MethodName) prog_10_method_22_code (2 : Nat) (Option.some Jvm.ClassFile.FieldType.boolean)) ∈ zTg := zt_6 (i := 33) rfl rfl
theorem zw_6_34 : (Jvm.Cond.methodLink "ResidueworksLaw" (279 : Nat) ({ cls := "ResidueworksLaw", name := "share", desc := "(LResidueworks;I[D)I" } : Jvm.MethodName)) ∈ zTg := zt_6 (i := 34) rfl rfl
theorem zw_6_35 : (Jvm.Cond.static ({ cls := "ResidueworksLaw", name := "share", desc := "(LResidueworks;I[D)I" } : Jvm.MethodName)) ∈ zTg := zt_6 (i := 35) rfl rfl
theorem zw_6_36 : (Jvm.Cond.codeWith ({ cls := "ResidueworksLaw", name := "share", desc := "(LResidueworks;I[D)I" } : Jvm.MethodName) method_37_code (4 : Nat) (Option.some Jvm.ClassFile.FieldType.int) [((0 : Nat), (9 : Nat), (12 : Nat), (13 : Nat)), ((0 : Nat), (9 : Nat), (15 : Nat), (38 : Nat))]) ∈ zTg := zt_6 (i := 36) rfl rfl
theorem zw_6_37 : (Jvm.Cond.methodLink "ResidueworksLaw" (135 : Nat) ({ cls := "Residueworks", name := "share", desc := "(I)F" } : Jvm.MethodName)) ∈ zTg := zt_6 (i := 37) rfl rfl
theorem zw_6_38 : (Jvm.Cond.instanceMethod ({ cls := "Residueworks", name := "share", desc := "(I)F" } : Jvm.MethodName)) ∈ zTg := zt_6 (i := 38) rfl rfl
theorem zw_6_39 : (Jvm.Cond.selects "Residueworks" ({ cls := "Residueworks", name := "share", desc := "(I)F" } : Jvm.MethodName) ({ cls := "Residueworks", name := "share", desc := "(I)F" } : Jvm.MethodName)) ∈ zTg := zt_6 (i := 39) rfl rfl
theorem zw_6_40 : (Jvm.Cond.code ({ cls := "Residueworks", name := "share", desc := "(I)F" } : Jvm.MethodName) prog_1_method_39_code (4 : Nat) (Option.some Jvm.ClassFile.FieldType.float)) ∈ zTg := zt_6 (i := 40) rfl rfl
theorem zw_6_42 : (Jvm.Cond.methodLink "ResidueworksLaw" (293 : Nat) ({ cls := "ResidueworksLaw", name := "isTrue", desc := "(LResidueworks;III[J)I" } : Jvm.MethodName)) ∈ zTg := zt_6 (i := 42) rfl rfl
theorem zw_6_43 : (Jvm.Cond.static ({ cls := "ResidueworksLaw", name := "isTrue", desc := "(LResidueworks;III[J)I" } : Jvm.MethodName)) ∈ zTg := zt_6 (i := 43) rfl rfl
theorem zw_6_44 : (Jvm.Cond.codeWith ({ cls := "ResidueworksLaw", name := "isTrue", desc := "(LResidueworks;III[J)I" } : Jvm.MethodName) method_38_code (6 : Nat) (Option.some Jvm.ClassFile.FieldType.int) [((0 : Nat), (19 : Nat), (22 : Nat), (13 : Nat))]) ∈ zTg := zt_6 (i := 44) rfl rfl
theorem zw_6_45 : (Jvm.Cond.methodLink "ResidueworksLaw" (139 : Nat) ({ cls := "Residueworks", name := "isTrue", desc := "(III)Z" } : Jvm.MethodName)) ∈ zTg := zt_6 (i := 45) rfl rfl
theorem zw_6_46 : (Jvm.Cond.instanceMethod ({ cls := "Residueworks", name := "isTrue", desc := "(III)Z" } : Jvm.MethodName)) ∈ zTg := zt_6 (i := 46) rfl rfl
theorem zw_6_47 : (Jvm.Cond.selects "Residueworks" ({ cls := "Residueworks", name := "isTrue", desc := "(III)Z" } : Jvm.MethodName) ({ cls := "Residueworks", name := "isTrue", desc := "(III)Z" } : Jvm.MethodName)) ∈ zTg := zt_6 (i := 47) rfl rfl
theorem zw_6_48 : (Jvm.Cond.code ({ cls := "Residueworks", name := "isTrue", desc := "(III)Z" } : Jvm.MethodName) prog_1_method_42_code (8 : Nat) (Option.some Jvm.ClassFile.FieldType.boolean)) ∈ zTg := zt_6 (i := 48) rfl rfl
theorem zw_6_49 : (Jvm.Cond.methodLink "Residueworks" (342 : Nat) ({ cls := "Residueworks$Theorem", name := "bitsHold", desc := "(LResidueworks$Whole;LResidueworks$Whole;)Z" } : Jvm.MethodName)) ∈ zTg := zt_6 (i := 49) rfl rfl
theorem zw_6_50 : (Jvm.Cond.instanceMethod ({ cls := "Residueworks$Theorem", name := "bitsHold", desc := "(LResidueworks$Whole;LResidueworks$Whole;)Z" } : Jvm.MethodName)) ∈ zTg := zt_6 (i := 50) rfl rfl
theorem zw_6_51 : (Jvm.Cond.selects "Residueworks$Theorem" ({ cls := "Residueworks$Theorem", name := "bitsHold", desc := "(LResidueworks$Whole;LResidueworks$Whole;)Z" } : Jvm.MethodName) ({ cls := "Residueworks$Theorem", name := "bitsHold", desc := "(LResidueworks$Whole;LResidueworks$Whole;)Z" } : Jvm.MethodName)) ∈ zTg := zt_6 (i := 51) rfl rfl
theorem zw_6_52 : (Jvm.Cond.code ({ cls := "Residueworks$Theorem", name := "bitsHold", desc := "(LResidueworks$Whole;LResidueworks$Whole;)Z" } : Jvm.MethodName) prog_9_method_2_code (3 : Nat) (Option.some Jvm.ClassFile.FieldType.boolean)) ∈ zTg := zt_6 (i := 52) rfl rfl
theorem zw_6_53 : (Jvm.Cond.methodLink "Residueworks$Theorem" (90 : Nat) ({ cls := "Residueworks$Whole", name := "leaves", desc := "(I)I" } : Jvm.MethodName)) ∈ zTg := zt_6 (i := 53) rfl rfl
theorem zw_6_54 : (Jvm.Cond.methodLink "Residueworks$Theorem" (94 : Nat) ({ cls := "Residueworks$Theorem", name := "bitsOfOneHold", desc := "(LResidueworks$Whole;I)Z" } : Jvm.MethodName)) ∈ zTg := zt_6 (i := 54) rfl rfl
theorem zw_6_56 : (Jvm.Cond.instanceMethod ({ cls := "Residueworks$Theorem", name := "bitsOfOneHold", desc := "(LResidueworks$Whole;I)Z" } : Jvm.MethodName)) ∈ zTg := zt_6 (i := 56) rfl rfl
theorem zw_6_57 : (Jvm.Cond.code ({ cls := "Residueworks$Theorem", name := "bitsOfOneHold", desc := "(LResidueworks$Whole;I)Z" } : Jvm.MethodName) prog_9_method_3_code (3 : Nat) (Option.some Jvm.ClassFile.FieldType.boolean)) ∈ zTg := zt_6 (i := 57) rfl rfl
theorem zw_6_58 : (Jvm.Cond.methodLink "Residueworks$Theorem" (106 : Nat) ({ cls := "Residueworks$Whole", name := "becomeBits", desc := "(CLResidueworks$Whole;LResidueworks$Whole;)V" } : Jvm.MethodName)) ∈ zTg := zt_6 (i := 58) rfl rfl
theorem zw_6_59 : (Jvm.Cond.methodLink "Residueworks$Theorem" (110 : Nat) ({ cls := "Residueworks$Whole", name := "differenceOf", desc := "(LResidueworks$Whole;LResidueworks$Whole;)V" } : Jvm.MethodName)) ∈ zTg := zt_6 (i := 59) rfl rfl
theorem zw_6_60 : (Jvm.Cond.methodLink "Residueworks$Theorem" (114 : Nat) ({ cls := "Residueworks$Whole", name := "isLike", desc := "(LResidueworks$Whole;)Z" } : Jvm.MethodName)) ∈ zTg := zt_6 (i := 60) rfl rfl
theorem zw_6_61 : (Jvm.Cond.methodLink "Residueworks$Theorem" (117 : Nat) ({ cls := "Residueworks$Row", name := "show", desc := "(LResidueworks$Whole;)V" } : Jvm.MethodName)) ∈ zTg := zt_6 (i := 61) rfl rfl
theorem zw_6_62 : (Jvm.Cond.methodLink "Residueworks$Theorem" (121 : Nat) ({ cls := "Residueworks$Row", name := "tellNumber", desc := "(LResidueworks$Whole;)V" } : Jvm.MethodName)) ∈ zTg := zt_6 (i := 62) rfl rfl
theorem zw_6_63 : (Jvm.Cond.methodLink "Residueworks$Theorem" (124 : Nat) ({ cls := "Residueworks$Theorem", name := "shiftsHold", desc := "(LResidueworks$Whole;I)Z" } : Jvm.MethodName)) ∈ zTg := zt_6 (i := 63) rfl rfl
theorem zw_6_65 : (Jvm.Cond.instanceMethod ({ cls := "Residueworks$Theorem", name := "shiftsHold", desc := "(LResidueworks$Whole;I)Z" } : Jvm.MethodName)) ∈ zTg := zt_6 (i := 65) rfl rfl
theorem zw_6_66 : (Jvm.Cond.code ({ cls := "Residueworks$Theorem", name := "shiftsHold", desc := "(LResidueworks$Whole;I)Z" } : Jvm.MethodName) prog_9_method_4_code (3 : Nat) (Option.some Jvm.ClassFile.FieldType.boolean)) ∈ zTg := zt_6 (i := 66) rfl rfl
theorem zw_6_67 : (Jvm.Cond.methodLink "Residueworks$Theorem" (127 : Nat) ({ cls := "Residueworks$Whole", name := "becomeBit", desc := "(I)V" } : Jvm.MethodName)) ∈ zTg := zt_6 (i := 67) rfl rfl
theorem zw_6_68 : (Jvm.Cond.methodLink "Residueworks$Theorem" (131 : Nat) ({ cls := "Residueworks$Whole", name := "shiftUp", desc := "(LResidueworks$Whole;I)V" } : Jvm.MethodName)) ∈ zTg := zt_6 (i := 68) rfl rfl
theorem zw_6_69 : (Jvm.Cond.methodLink "Residueworks$Theorem" (135 : Nat) ({ cls := "Residueworks$Whole", name := "productOf", desc := "(LResidueworks$Whole;LResidueworks$Whole;)V" } : Jvm.MethodName)) ∈ zTg := zt_6 (i := 69) rfl rfl
theorem zw_6_70 : (Jvm.Cond.methodLink "Residueworks$Theorem" (138 : Nat) ({ cls := "Residueworks$Division", name := "reduce", desc := "(LResidueworks$Whole;LResidueworks$Whole;)V" } : Jvm.MethodName)) ∈ zTg := zt_6 (i := 70) rfl rfl
theorem zw_6_71 : (Jvm.Cond.methodLink "Residueworks$Theorem" (144 : Nat) ({ cls := "Residueworks$Division", name := "divide", desc := "(LResidueworks$Whole;LResidueworks$Whole;)V" } : Jvm.MethodName)) ∈ zTg := zt_6 (i := 71) rfl rfl
theorem zw_6_72 : (Jvm.Cond.methodLink "Residueworks$Theorem" (147 : Nat) ({ cls := "Residueworks$Whole", name := "shiftDownFloor", desc := "(LResidueworks$Whole;I)V" } : Jvm.MethodName)) ∈ zTg := zt_6 (i := 72) rfl rfl
theorem zw_6_73 : (Jvm.Cond.methodLink "Residueworks$Theorem" (98 : Nat) ({ cls := "Residueworks$Theorem", name := "lengthHolds", desc := "(LResidueworks$Whole;)Z" } : Jvm.MethodName)) ∈ zTg := zt_6 (i := 73) rfl rfl
theorem zw_6_75 : (Jvm.Cond.instanceMethod ({ cls := "Residueworks$Theorem", name := "lengthHolds", desc := "(LResidueworks$Whole;)Z" } : Jvm.MethodName)) ∈ zTg := zt_6 (i := 75) rfl rfl
theorem zw_6_76 : (Jvm.Cond.code ({ cls := "Residueworks$Theorem", name := "lengthHolds", desc := "(LResidueworks$Whole;)Z" } : Jvm.MethodName) prog_9_method_5_code (3 : Nat) (Option.some Jvm.ClassFile.FieldType.boolean)) ∈ zTg := zt_6 (i := 76) rfl rfl
theorem zw_6_77 : (Jvm.Cond.methodLink "Residueworks$Theorem" (153 : Nat) ({ cls := "Residueworks$Whole", name := "bitLength", desc := "()I" } : Jvm.MethodName)) ∈ zTg := zt_6 (i := 77) rfl rfl
theorem zw_6_78 : (Jvm.Cond.methodLink "Residueworks$Theorem" (157 : Nat) ({ cls := "Residueworks$Theorem", name := "isWithin", desc := "(LResidueworks$Whole;I)Z" } : Jvm.MethodName)) ∈ zTg := zt_6 (i := 78) rfl rfl
theorem zw_6_80 : (Jvm.Cond.instanceMethod ({ cls := "Residueworks$Theorem", name := "isWithin", desc := "(LResidueworks$Whole;I)Z" } : Jvm.MethodName)) ∈ zTg := zt_6 (i := 80) rfl rfl
theorem zw_6_81 : (Jvm.Cond.code ({ cls := "Residueworks$Theorem", name := "isWithin", desc := "(LResidueworks$Whole;I)Z" } : Jvm.MethodName) prog_9_method_6_code (4 : Nat) (Option.some Jvm.ClassFile.FieldType.boolean)) ∈ zTg := zt_6 (i := 81) rfl rfl
theorem zw_6_82 : (Jvm.Cond.methodLink "Residueworks$Theorem" (160 : Nat) ({ cls := "Residueworks$Whole", name := "against", desc := "(LResidueworks$Whole;)I" } : Jvm.MethodName)) ∈ zTg := zt_6 (i := 82) rfl rfl
theorem zw_6_83 : (Jvm.Cond.methodLink "Residueworks$Theorem" (102 : Nat) ({ cls := "Residueworks$Theorem", name := "bitsOfTwoHold", desc := "(LResidueworks$Whole;LResidueworks$Whole;)Z" } : Jvm.MethodName)) ∈ zTg := zt_6 (i := 83) rfl rfl
theorem zw_6_85 : (Jvm.Cond.instanceMethod ({ cls := "Residueworks$Theorem", name := "bitsOfTwoHold", desc := "(LResidueworks$Whole;LResidueworks$Whole;)Z" } : Jvm.MethodName)) ∈ zTg := zt_6 (i := 85) rfl rfl
theorem zw_6_86 : (Jvm.Cond.code ({ cls := "Residueworks$Theorem", name := "bitsOfTwoHold", desc := "(LResidueworks$Whole;LResidueworks$Whole;)Z" } : Jvm.MethodName) prog_9_method_7_code (3 : Nat) (Option.some Jvm.ClassFile.FieldType.boolean)) ∈ zTg := zt_6 (i := 86) rfl rfl
theorem zw_6_87 : (Jvm.Cond.methodLink "Residueworks$Theorem" (168 : Nat) ({ cls := "Residueworks$Whole", name := "sumOf", desc := "(LResidueworks$Whole;LResidueworks$Whole;)V" } : Jvm.MethodName)) ∈ zTg := zt_6 (i := 87) rfl rfl
theorem zw_6_88 : (Jvm.Cond.methodLink "Residueworks" (345 : Nat) ({ cls := "Residueworks$Theorem", name := "divisionsHold", desc := "(LResidueworks$Whole;LResidueworks$Whole;)Z" } : Jvm.MethodName)) ∈ zTg := zt_6 (i := 88) rfl rfl
theorem zw_6_89 : (Jvm.Cond.instanceMethod ({ cls := "Residueworks$Theorem", name := "divisionsHold", desc := "(LResidueworks$Whole;LResidueworks$Whole;)Z" } : Jvm.MethodName)) ∈ zTg := zt_6 (i := 89) rfl rfl
theorem zw_6_90 : (Jvm.Cond.selects "Residueworks$Theorem" ({ cls := "Residueworks$Theorem", name := "divisionsHold", desc := "(LResidueworks$Whole;LResidueworks$Whole;)Z" } : Jvm.MethodName) ({ cls := "Residueworks$Theorem", name := "divisionsHold", desc := "(LResidueworks$Whole;LResidueworks$Whole;)Z" } : Jvm.MethodName)) ∈ zTg := zt_6 (i := 90) rfl rfl
theorem zw_6_91 : (Jvm.Cond.code ({ cls := "Residueworks$Theorem", name := "divisionsHold", desc := "(LResidueworks$Whole;LResidueworks$Whole;)Z" } : Jvm.MethodName) prog_9_method_8_code (3 : Nat) (Option.some Jvm.ClassFile.FieldType.boolean)) ∈ zTg := zt_6 (i := 91) rfl rfl
theorem zw_6_92 : (Jvm.Cond.methodLink "Residueworks$Theorem" (171 : Nat) ({ cls := "Residueworks$Theorem", name := "divisionHolds", desc := "(LResidueworks$Whole;LResidueworks$Whole;)Z" } : Jvm.MethodName)) ∈ zTg := zt_6 (i := 92) rfl rfl
theorem zw_6_94 : (Jvm.Cond.instanceMethod ({ cls := "Residueworks$Theorem", name := "divisionHolds", desc := "(LResidueworks$Whole;LResidueworks$Whole;)Z" } : Jvm.MethodName)) ∈ zTg := zt_6 (i := 94) rfl rfl
theorem zw_6_95 : (Jvm.Cond.code ({ cls := "Residueworks$Theorem", name := "divisionHolds", desc := "(LResidueworks$Whole;LResidueworks$Whole;)Z" } : Jvm.MethodName) prog_9_method_9_code (3 : Nat) (Option.some Jvm.ClassFile.FieldType.boolean)) ∈ zTg := zt_6 (i := 95) rfl rfl
theorem zw_6_97 : (Jvm.Cond.methodLink "Residueworks" (348 : Nat) ({ cls := "Residueworks$Theorem", name := "textsHold", desc := "(LResidueworks$Whole;LResidueworks$Whole;)Z" } : Jvm.MethodName)) ∈ zTg := zt_6 (i := 97) rfl rfl
theorem zw_6_98 : (Jvm.Cond.instanceMethod ({ cls := "Residueworks$Theorem", name := "textsHold", desc := "(LResidueworks$Whole;LResidueworks$Whole;)Z" } : Jvm.MethodName)) ∈ zTg := zt_6 (i := 98) rfl rfl
theorem zw_6_99 : (Jvm.Cond.selects "Residueworks$Theorem" ({ cls := "Residueworks$Theorem", name := "textsHold", desc := "(LResidueworks$Whole;LResidueworks$Whole;)Z" } : Jvm.MethodName) ({ cls := "Residueworks$Theorem", name := "textsHold", desc := "(LResidueworks$Whole;LResidueworks$Whole;)Z" } : Jvm.MethodName)) ∈ zTg := zt_6 (i := 99) rfl rfl
theorem zw_6_100 : (Jvm.Cond.code ({ cls := "Residueworks$Theorem", name := "textsHold", desc := "(LResidueworks$Whole;LResidueworks$Whole;)Z" } : Jvm.MethodName) prog_9_method_10_code (3 : Nat) (Option.some Jvm.ClassFile.FieldType.boolean)) ∈ zTg := zt_6 (i := 100) rfl rfl
theorem zw_6_101 : (Jvm.Cond.methodLink "Residueworks$Theorem" (177 : Nat) ({ cls := "Residueworks$Theorem", name := "textHolds", desc := "(LResidueworks$Whole;I)Z" } : Jvm.MethodName)) ∈ zTg := zt_6 (i := 101) rfl rfl
theorem zw_6_103 : (Jvm.Cond.instanceMethod ({ cls := "Residueworks$Theorem", name := "textHolds", desc := "(LResidueworks$Whole;I)Z" } : Jvm.MethodName)) ∈ zTg := zt_6 (i := 103) rfl rfl
theorem zw_6_104 : (Jvm.Cond.code ({ cls := "Residueworks$Theorem", name := "textHolds", desc := "(LResidueworks$Whole;I)Z" } : Jvm.MethodName) prog_9_method_11_code (3 : Nat) (Option.some Jvm.ClassFile.FieldType.boolean)) ∈ zTg := zt_6 (i := 104) rfl rfl
theorem zw_6_105 : (Jvm.Cond.methodLink "Residueworks$Theorem" (180 : Nat) ({ cls := "Residueworks$Text", name := "show", desc := "(LResidueworks$Whole;I)V" } : Jvm.MethodName)) ∈ zTg := zt_6 (i := 105) rfl rfl
theorem zw_6_106 : (Jvm.Cond.methodLink "Residueworks$Theorem" (182 : Nat) ({ cls := "Residueworks$Text", name := "tellNumber", desc := "(LResidueworks$Whole;I)Z" } : Jvm.MethodName)) ∈ zTg := zt_6 (i := 106) rfl rfl
theorem zw_6_107 : (Jvm.Cond.methodLink "Residueworks" (351 : Nat) ({ cls := "Residueworks$Theorem", name := "rootsHold", desc := "(LResidueworks$Whole;)Z" } : Jvm.MethodName)) ∈ zTg := zt_6 (i := 107) rfl rfl
theorem zw_6_108 : (Jvm.Cond.instanceMethod ({ cls := "Residueworks$Theorem", name := "rootsHold", desc := "(LResidueworks$Whole;)Z" } : Jvm.MethodName)) ∈ zTg := zt_6 (i := 108) rfl rfl
theorem zw_6_109 : (Jvm.Cond.selects "Residueworks$Theorem" ({ cls := "Residueworks$Theorem", name := "rootsHold", desc := "(LResidueworks$Whole;)Z" } : Jvm.MethodName) ({ cls := "Residueworks$Theorem", name := "rootsHold", desc := "(LResidueworks$Whole;)Z" } : Jvm.MethodName)) ∈ zTg := zt_6 (i := 109) rfl rfl
theorem zw_6_110 : (Jvm.Cond.code ({ cls := "Residueworks$Theorem", name := "rootsHold", desc := "(LResidueworks$Whole;)Z" } : Jvm.MethodName) prog_9_method_12_code (2 : Nat) (Option.some Jvm.ClassFile.FieldType.boolean)) ∈ zTg := zt_6 (i := 110) rfl rfl
theorem zw_6_111 : (Jvm.Cond.methodLink "Residueworks$Theorem" (184 : Nat) ({ cls := "Residueworks$Theorem", name := "rootHolds", desc := "(LResidueworks$Whole;I)Z" } : Jvm.MethodName)) ∈ zTg := zt_6 (i := 111) rfl rfl
theorem zw_6_113 : (Jvm.Cond.instanceMethod ({ cls := "Residueworks$Theorem", name := "rootHolds", desc := "(LResidueworks$Whole;I)Z" } : Jvm.MethodName)) ∈ zTg := zt_6 (i := 113) rfl rfl
theorem zw_6_114 : (Jvm.Cond.code ({ cls := "Residueworks$Theorem", name := "rootHolds", desc := "(LResidueworks$Whole;I)Z" } : Jvm.MethodName) prog_9_method_13_code (5 : Nat) (Option.some Jvm.ClassFile.FieldType.boolean)) ∈ zTg := zt_6 (i := 114) rfl rfl
theorem zw_6_115 : (Jvm.Cond.methodLink "Residueworks$Theorem" (187 : Nat) ({ cls := "Residueworks$Whole", name := "becomeAmountOf", desc := "(LResidueworks$Whole;)V" } : Jvm.MethodName)) ∈ zTg := zt_6 (i := 115) rfl rfl
theorem zw_6_116 : (Jvm.Cond.methodLink "Residueworks$Theorem" (190 : Nat) ({ cls := "Residueworks$Roots", name := "rootOf", desc := "(LResidueworks$Whole;I)V" } : Jvm.MethodName)) ∈ zTg := zt_6 (i := 116) rfl rfl
theorem zw_6_117 : (Jvm.Cond.methodLink "Residueworks$Theorem" (196 : Nat) ({ cls := "Residueworks$Roots", name := "raise", desc := "(LResidueworks$Whole;II)Z" } : Jvm.MethodName)) ∈ zTg := zt_6 (i := 117) rfl rfl
theorem zw_6_118 : (Jvm.Cond.methodLink "Residueworks" (355 : Nat) ({ cls := "Residueworks$Theorem", name := "symbolsHold", desc := "(LResidueworks$Whole;LResidueworks$Whole;)Z" } : Jvm.MethodName)) ∈ zTg := zt_6 (i := 118) rfl rfl
theorem zw_6_119 : (Jvm.Cond.instanceMethod ({ cls := "Residueworks$Theorem", name := "symbolsHold", desc := "(LResidueworks$Whole;LResidueworks$Whole;)Z" } : Jvm.MethodName)) ∈ zTg := zt_6 (i := 119) rfl rfl
theorem zw_6_120 : (Jvm.Cond.selects "Residueworks$Theorem" ({ cls := "Residueworks$Theorem", name := "symbolsHold", desc := "(LResidueworks$Whole;LResidueworks$Whole;)Z" } : Jvm.MethodName) ({ cls := "Residueworks$Theorem", name := "symbolsHold", desc := "(LResidueworks$Whole;LResidueworks$Whole;)Z" } : Jvm.MethodName)) ∈ zTg := zt_6 (i := 120) rfl rfl
theorem zw_6_121 : (Jvm.Cond.code ({ cls := "Residueworks$Theorem", name := "symbolsHold", desc := "(LResidueworks$Whole;LResidueworks$Whole;)Z" } : Jvm.MethodName) prog_9_method_14_code (6 : Nat) (Option.some Jvm.ClassFile.FieldType.boolean)) ∈ zTg := zt_6 (i := 121) rfl rfl
theorem zw_6_122 : (Jvm.Cond.methodLink "Residueworks$Theorem" (203 : Nat) ({ cls := "Residueworks$Theorem", name := "makeOddAmount", desc := "(LResidueworks$Whole;LResidueworks$Whole;)V" } : Jvm.MethodName)) ∈ zTg := zt_6 (i := 122) rfl rfl
theorem zw_6_124 : (Jvm.Cond.instanceMethod ({ cls := "Residueworks$Theorem", name := "makeOddAmount", desc := "(LResidueworks$Whole;LResidueworks$Whole;)V" } : Jvm.MethodName)) ∈ zTg := zt_6 (i := 124) rfl rfl
theorem zw_6_125 : (Jvm.Cond.code ({ cls := "Residueworks$Theorem", name := "makeOddAmount", desc := "(LResidueworks$Whole;LResidueworks$Whole;)V" } : Jvm.MethodName) prog_9_method_15_code (3 : Nat) (Option.none : Option Jvm.ClassFile.FieldType)) ∈ zTg := zt_6 (i := 125) rfl rfl
theorem zw_6_126 : (Jvm.Cond.methodLink "Residueworks$Theorem" (206 : Nat) ({ cls := "Residueworks$Residues", name := "measure", desc := "(LResidueworks$Whole;LResidueworks$Whole;)V" } : Jvm.MethodName)) ∈ zTg := zt_6 (i := 126) rfl rfl
theorem zw_6_127 : (Jvm.Cond.methodLink "Residueworks$Theorem" (212 : Nat) ({ cls := "Residueworks$Whole", name := "isOne", desc := "()Z" } : Jvm.MethodName)) ∈ zTg := zt_6 (i := 127) rfl rfl
theorem zw_6_128 : (Jvm.Cond.methodLink "Residueworks$Theorem" (216 : Nat) ({ cls := "Residueworks$Residues", name := "symbolOf", desc := "(LResidueworks$Whole;LResidueworks$Whole;)I" } : Jvm.MethodName)) ∈ zTg := zt_6 (i := 128) rfl rfl
theorem zw_6_129 : (Jvm.Cond.methodLink "Residueworks$Theorem" (220 : Nat) ({ cls := "Residueworks$Whole", name := "limb", desc := "(I)I" } : Jvm.MethodName)) ∈ zTg := zt_6 (i := 129) rfl rfl
theorem zw_6_130 : (Jvm.Cond.methodLink "Residueworks$Theorem" (223 : Nat) ({ cls := "Residueworks$Theorem", name := "squareHolds", desc := "(LResidueworks$Whole;LResidueworks$Whole;I)Z" } : Jvm.MethodName)) ∈ zTg := zt_6 (i := 130) rfl rfl
theorem zw_6_132 : (Jvm.Cond.instanceMethod ({ cls := "Residueworks$Theorem", name := "squareHolds", desc := "(LResidueworks$Whole;LResidueworks$Whole;I)Z" } : Jvm.MethodName)) ∈ zTg := zt_6 (i := 132) rfl rfl
theorem zw_6_133 : (Jvm.Cond.code ({ cls := "Residueworks$Theorem", name := "squareHolds", desc := "(LResidueworks$Whole;LResidueworks$Whole;I)Z" } : Jvm.MethodName) prog_9_method_16_code (8 : Nat) (Option.some Jvm.ClassFile.FieldType.boolean)) ∈ zTg := zt_6 (i := 133) rfl rfl
theorem zw_6_134 : (Jvm.Cond.constant "Residueworks$Theorem" (227 : Nat) (1048575 : Int32)) ∈ zTg := zt_6 (i := 134) rfl rfl
theorem zw_6_135 : (Jvm.Cond.methodLink "Residueworks$Theorem" (228 : Nat) ({ cls := "Residueworks$Whole", name := "within", desc := "(II)I" } : Jvm.MethodName)) ∈ zTg := zt_6 (i := 135) rfl rfl
theorem zw_6_139 : (Jvm.Cond.methodLink "Residueworks" (358 : Nat) ({ cls := "Residueworks$Whole", name := "isAboveOne", desc := "()Z" } : Jvm.MethodName)) ∈ zTg := zt_6 (i := 139) rfl rfl
theorem zw_6_140 : (Jvm.Cond.instanceMethod ({ cls := "Residueworks$Whole", name := "isAboveOne", desc := "()Z" } : Jvm.MethodName)) ∈ zTg := zt_6 (i := 140) rfl rfl
theorem zw_6_141 : (Jvm.Cond.selects "Residueworks$Whole" ({ cls := "Residueworks$Whole", name := "isAboveOne", desc := "()Z" } : Jvm.MethodName) ({ cls := "Residueworks$Whole", name := "isAboveOne", desc := "()Z" } : Jvm.MethodName)) ∈ zTg := zt_6 (i := 141) rfl rfl
theorem zw_6_142 : (Jvm.Cond.code ({ cls := "Residueworks$Whole", name := "isAboveOne", desc := "()Z" } : Jvm.MethodName) prog_10_method_11_code (1 : Nat) (Option.some Jvm.ClassFile.FieldType.boolean)) ∈ zTg := zt_6 (i := 142) rfl rfl
theorem zw_6_193 : (Jvm.Cond.classLink "ResidueworksLaw" (144 : Nat) "ResidueworksModel") ∈ zTg := zt_6 (i := 193) rfl rfl
theorem zw_6_194 : (Jvm.Cond.instantiable "ResidueworksModel" (6 : Nat)) ∈ zTg := zt_6 (i := 194) rfl rfl
theorem zw_6_195 : (Jvm.Cond.methodLink "ResidueworksLaw" (146 : Nat) ({ cls := "ResidueworksModel", name := "<init>", desc := "()V" } : Jvm.MethodName)) ∈ zTg := zt_6 (i := 195) rfl rfl
theorem zw_6_196 : (Jvm.Cond.instanceMethod ({ cls := "ResidueworksModel", name := "<init>", desc := "()V" } : Jvm.MethodName)) ∈ zTg := zt_6 (i := 196) rfl rfl
theorem zw_6_197 : (Jvm.Cond.code ({ cls := "ResidueworksModel", name := "<init>", desc := "()V" } : Jvm.MethodName) prog_12_method_22_code (2 : Nat) (Option.none : Option Jvm.ClassFile.FieldType)) ∈ zTg := zt_6 (i := 197) rfl rfl
theorem zw_6_198 : (Jvm.Cond.methodLink "ResidueworksModel" (139 : Nat) ({ cls := "java/lang/Object", name := "<init>", desc := "()V" } : Jvm.MethodName)) ∈ zTg := zt_6 (i := 198) rfl rfl
theorem zw_6_199 : (Jvm.Cond.classLink "ResidueworksModel" (62 : Nat) "ResidueworksModel$Whole") ∈ zTg := zt_6 (i := 199) rfl rfl
theorem zw_6_200 : (Jvm.Cond.arrayOver (Jvm.ClassFile.FieldType.object "ResidueworksModel$Whole")) ∈ zTn := zn_6 (i := 200) rfl rfl
theorem zw_6_201 : (Jvm.Cond.classLink "ResidueworksModel" (148 : Nat) "java/lang/StringBuilder") ∈ zTg := zt_6 (i := 201) rfl rfl
theorem zw_6_202 : (Jvm.Cond.instantiable "java/lang/StringBuilder" (4 : Nat)) ∈ zTg := zt_6 (i := 202) rfl rfl
theorem zw_6_203 : (Jvm.Cond.methodLink "ResidueworksModel" (150 : Nat) ({ cls := "java/lang/StringBuilder", name := "<init>", desc := "()V" } : Jvm.MethodName)) ∈ zTg := zt_6 (i := 203) rfl rfl
theorem zw_6_204 : (Jvm.Cond.instanceMethod ({ cls := "java/lang/StringBuilder", name := "<init>", desc := "()V" } : Jvm.MethodName)) ∈ zTg := zt_6 (i := 204) rfl rfl
theorem zw_6_205 : (Jvm.Cond.code ({ cls := "java/lang/StringBuilder", name := "<init>", desc := "()V" } : Jvm.MethodName) prog_34_method_1_code (1 : Nat) (Option.none : Option Jvm.ClassFile.FieldType)) ∈ zTg := zt_6 (i := 205) rfl rfl
theorem zw_6_206 : (Jvm.Cond.methodLink "java/lang/StringBuilder" (1 : Nat) ({ cls := "java/lang/AbstractStringBuilder", name := "<init>", desc := "(I)V" } : Jvm.MethodName)) ∈ zTg := zt_6 (i := 206) rfl rfl
theorem zw_6_207 : (Jvm.Cond.instanceMethod ({ cls := "java/lang/AbstractStringBuilder", name := "<init>", desc := "(I)V" } : Jvm.MethodName)) ∈ zTg := zt_6 (i := 207) rfl rfl
theorem zw_6_208 : (Jvm.Cond.code ({ cls := "java/lang/AbstractStringBuilder", name := "<init>", desc := "(I)V" } : Jvm.MethodName) prog_15_method_2_code (2 : Nat) (Option.none : Option Jvm.ClassFile.FieldType)) ∈ zTg := zt_6 (i := 208) rfl rfl
theorem zw_6_209 : (Jvm.Cond.methodLink "java/lang/AbstractStringBuilder" (3 : Nat) ({ cls := "java/lang/Object", name := "<init>", desc := "()V" } : Jvm.MethodName)) ∈ zTg := zt_6 (i := 209) rfl rfl
theorem zw_6_210 : (Jvm.Cond.fieldLink "java/lang/AbstractStringBuilder" (18 : Nat) "java/lang/String" "COMPACT_STRINGS" "Z") ∈ zTg := zt_6 (i := 210) rfl rfl
theorem zw_6_219 : (Jvm.Cond.fieldLink "java/lang/AbstractStringBuilder" (15 : Nat) "java/lang/AbstractStringBuilder" "value" "[B") ∈ zTg := zt_6 (i := 219) rfl rfl
theorem zw_6_220 : (Jvm.Cond.fieldLink "java/lang/AbstractStringBuilder" (22 : Nat) "java/lang/AbstractStringBuilder" "coder" "B") ∈ zTg := zt_6 (i := 220) rfl rfl
theorem zw_6_223 : (Jvm.Cond.fieldLink "java/lang/AbstractStringBuilder" (79 : Nat) "java/lang/AbstractStringBuilder" "count" "I") ∈ zTg := zt_6 (i := 223) rfl rfl
theorem zw_6_224 : (Jvm.Cond.lays "java/lang/StringBuilder" "java/lang/AbstractStringBuilder" "value" "[B") ∈ zTg := zt_6 (i := 224) rfl rfl
theorem zw_6_226 : (Jvm.Cond.lays "java/lang/StringBuilder" "java/lang/AbstractStringBuilder" "coder" "B") ∈ zTg := zt_6 (i := 226) rfl rfl
theorem zw_6_228 : (Jvm.Cond.lays "java/lang/StringBuilder" "java/lang/AbstractStringBuilder" "maybeLatin1" "Z") ∈ zTg := zt_6 (i := 228) rfl rfl
theorem zw_6_230 : (Jvm.Cond.lays "java/lang/StringBuilder" "java/lang/AbstractStringBuilder" "count" "I") ∈ zTg := zt_6 (i := 230) rfl rfl
theorem zw_6_232 : (Jvm.Cond.superclass "java/lang/StringBuilder" "java/lang/AbstractStringBuilder") ∈ zTg := zt_6 (i := 232) rfl rfl
theorem zw_6_233 : (Jvm.Cond.classLink "ResidueworksModel" (155 : Nat) "java/util/ArrayList") ∈ zTg := zt_6 (i := 233) rfl rfl
theorem zw_6_234 : (Jvm.Cond.instantiable "java/util/ArrayList" (3 : Nat)) ∈ zTg := zt_6 (i := 234) rfl rfl
theorem zw_6_235 : (Jvm.Cond.methodLink "ResidueworksModel" (157 : Nat) ({ cls := "java/util/ArrayList", name := "<init>", desc := "()V" } : Jvm.MethodName)) ∈ zTg := zt_6 (i := 235) rfl rfl
theorem zw_6_236 : (Jvm.Cond.instanceMethod ({ cls := "java/util/ArrayList", name := "<init>", desc := "()V" } : Jvm.MethodName)) ∈ zTg := zt_6 (i := 236) rfl rfl
theorem zw_6_237 : (Jvm.Cond.code ({ cls := "java/util/ArrayList", name := "<init>", desc := "()V" } : Jvm.MethodName) prog_44_method_2_code (1 : Nat) (Option.none : Option Jvm.ClassFile.FieldType)) ∈ zTg := zt_6 (i := 237) rfl rfl
theorem zw_6_238 : (Jvm.Cond.methodLink "java/util/ArrayList" (1 : Nat) ({ cls := "java/util/AbstractList", name := "<init>", desc := "()V" } : Jvm.MethodName)) ∈ zTg := zt_6 (i := 238) rfl rfl
theorem zw_6_239 : (Jvm.Cond.instanceMethod ({ cls := "java/util/AbstractList", name := "<init>", desc := "()V" } : Jvm.MethodName)) ∈ zTg := zt_6 (i := 239) rfl rfl
theorem zws_7 : Cond.selects "Residueworks$Whole" ⟨"Residueworks$Whole", "addTimes", "(LResidueworks$Whole;JI)V"⟩ ⟨"Residueworks$Whole", "addTimes", "(LResidueworks$Whole;JI)V"⟩ ∈ zTg := zsel (i := 7) (q := (⟨"Residueworks$Whole", "addTimes", "(LResidueworks$Whole;JI)V"⟩, 3)) (by decide +kernel)
theorem zw_7_0 : (Jvm.Cond.code ({ cls := "java/util/AbstractList", name := "<init>", desc := "()V" } : Jvm.MethodName) prog_43_method_1_code (1 : Nat) (Option.none : Option Jvm.ClassFile.FieldType)) ∈ zTg := zt_7 (i := 0) rfl rfl
theorem zw_7_1 : (Jvm.Cond.methodLink "java/util/AbstractList" (1 : Nat) ({ cls := "java/util/AbstractCollection", name := "<init>", desc := "()V" } : Jvm.MethodName)) ∈ zTg := zt_7 (i := 1) rfl rfl
theorem zw_7_2 : (Jvm.Cond.instanceMethod ({ cls := "java/util/AbstractCollection", name := "<init>", desc := "()V" } : Jvm.MethodName)) ∈ zTg := zt_7 (i := 2) rfl rfl
theorem zw_7_3 : (Jvm.Cond.code ({ cls := "java/util/AbstractCollection", name := "<init>", desc := "()V" } : Jvm.MethodName) prog_42_method_1_code (1 : Nat) (Option.none : Option Jvm.ClassFile.FieldType)) ∈ zTg := zt_7 (i := 3) rfl rfl
theorem zw_7_4 : (Jvm.Cond.methodLink "java/util/AbstractCollection" (1 : Nat) ({ cls := "java/lang/Object", name := "<init>", desc := "()V" } : Jvm.MethodName)) ∈ zTg := zt_7 (i := 4) rfl rfl
theorem zw_7_5 : (Jvm.Cond.fieldLink "java/util/ArrayList" (39 : Nat) "java/util/ArrayList" "DEFAULTCAPACITY_EMPTY_ELEMENTDATA" "[Ljava/lang/Object;") ∈ zTg := zt_7 (i := 5) rfl rfl
theorem zw_7_7 : (Jvm.Cond.fieldLink "java/util/ArrayList" (9 : Nat) "java/util/ArrayList" "elementData" "[Ljava/lang/Object;") ∈ zTg := zt_7 (i := 7) rfl rfl
theorem zw_7_9 : (Jvm.Cond.fieldLinkNest "java/util/ArrayList$Itr" (28 : Nat) "java/util/ArrayList" "size" "I" "java/util/ArrayList") ∈ zTn := zn_7 (i := 9) rfl rfl
theorem zw_7_10 : (Jvm.Cond.fieldLink "java/util/ArrayList" (48 : Nat) "java/util/ArrayList" "size" "I") ∈ zTg := zt_7 (i := 10) rfl rfl
theorem zw_7_11 : (Jvm.Cond.fieldLink "java/util/AbstractList" (7 : Nat) "java/util/AbstractList" "modCount" "I") ∈ zTg := zt_7 (i := 11) rfl rfl
theorem zw_7_12 : (Jvm.Cond.fieldLink "java/util/ArrayList$Itr" (17 : Nat) "java/util/ArrayList" "modCount" "I") ∈ zTg := zt_7 (i := 12) rfl rfl
theorem zw_7_14 : (Jvm.Cond.fieldLink "java/util/ArrayList" (63 : Nat) "java/util/ArrayList" "modCount" "I") ∈ zTg := zt_7 (i := 14) rfl rfl
theorem zw_7_15 : (Jvm.Cond.lays "java/util/ArrayList" "java/util/ArrayList" "elementData" "[Ljava/lang/Object;") ∈ zTg := zt_7 (i := 15) rfl rfl
theorem zw_7_17 : (Jvm.Cond.lays "java/util/ArrayList" "java/util/ArrayList" "size" "I") ∈ zTg := zt_7 (i := 17) rfl rfl
theorem zw_7_19 : (Jvm.Cond.lays "java/util/ArrayList" "java/util/AbstractList" "modCount" "I") ∈ zTg := zt_7 (i := 19) rfl rfl
theorem zw_7_22 : (Jvm.Cond.methodLink "ResidueworksModel" (68 : Nat) ({ cls := "ResidueworksModel", name := "of", desc := "(J)LResidueworksModel$Whole;" } : Jvm.MethodName)) ∈ zTg := zt_7 (i := 22) rfl rfl
theorem zw_7_23 : (Jvm.Cond.static ({ cls := "ResidueworksModel", name := "of", desc := "(J)LResidueworksModel$Whole;" } : Jvm.MethodName)) ∈ zTg := zt_7 (i := 23) rfl rfl
theorem zw_7_24 : (Jvm.Cond.code ({ cls := "ResidueworksModel", name := "of", desc := "(J)LResidueworksModel$Whole;" } : Jvm.MethodName) prog_12_method_13_code (6 : Nat) (Option.some (Jvm.ClassFile.FieldType.object "ResidueworksModel$Whole"))) ∈ zTg := zt_7 (i := 24) rfl rfl
theorem zw_7_25 : (Jvm.Cond.methodLink "ResidueworksModel" (58 : Nat) ({ cls := "java/lang/Math", name := "abs", desc := "(J)J" } : Jvm.MethodName)) ∈ zTg := zt_7 (i := 25) rfl rfl
theorem zw_7_26 : (Jvm.Cond.static ({ cls := "java/lang/Math", name := "abs", desc := "(J)J" } : Jvm.MethodName)) ∈ zTg := zt_7 (i := 26) rfl rfl
theorem zw_7_27 : (Jvm.Cond.code ({ cls := "java/lang/Math", name := "abs", desc := "(J)J" } : Jvm.MethodName) prog_30_method_61_code (2 : Nat) (Option.some Jvm.ClassFile.FieldType.long)) ∈ zTg := zt_7 (i := 27) rfl rfl
theorem zw_7_28 : (Jvm.Cond.constantLong "ResidueworksModel" (20 : Nat) (65535 : Int64)) ∈ zTg := zt_7 (i := 28) rfl rfl
theorem zw_7_29 : (Jvm.Cond.instantiable "ResidueworksModel$Whole" (2 : Nat)) ∈ zTg := zt_7 (i := 29) rfl rfl
theorem zw_7_30 : (Jvm.Cond.methodLink "ResidueworksModel" (14 : Nat) ({ cls := "ResidueworksModel", name := "cut", desc := "([I)[I" } : Jvm.MethodName)) ∈ zTg := zt_7 (i := 30) rfl rfl
theorem zw_7_31 : (Jvm.Cond.static ({ cls := "ResidueworksModel", name := "cut", desc := "([I)[I" } : Jvm.MethodName)) ∈ zTg := zt_7 (i := 31) rfl rfl
theorem zw_7_32 : (Jvm.Cond.code ({ cls := "ResidueworksModel", name := "cut", desc := "([I)[I" } : Jvm.MethodName) prog_12_method_1_code (3 : Nat) (Option.some (Jvm.ClassFile.FieldType.array Jvm.ClassFile.FieldType.int))) ∈ zTg := zt_7 (i := 32) rfl rfl
theorem zw_7_33 : (Jvm.Cond.methodLink "ResidueworksModel" (1 : Nat) ({ cls := "java/lang/System", name := "arraycopy", desc := "(Ljava/lang/Object;ILjava/lang/Object;II)V" } : Jvm.MethodName)) ∈ zTg := zt_7 (i := 33) rfl rfl
theorem zw_7_34 : (Jvm.Cond.methodLink "ResidueworksModel" (64 : Nat) ({ cls := "ResidueworksModel$Whole", name := "<init>", desc := "(I[I)V" } : Jvm.MethodName)) ∈ zTg := zt_7 (i := 34) rfl rfl
theorem zw_7_35 : (Jvm.Cond.instanceMethod ({ cls := "ResidueworksModel$Whole", name := "<init>", desc := "(I[I)V" } : Jvm.MethodName)) ∈ zTg := zt_7 (i := 35) rfl rfl
theorem zw_7_36 : (Jvm.Cond.code ({ cls := "ResidueworksModel$Whole", name := "<init>", desc := "(I[I)V" } : Jvm.MethodName) prog_13_method_1_code (3 : Nat) (Option.none : Option Jvm.ClassFile.FieldType)) ∈ zTg := zt_7 (i := 36) rfl rfl
theorem zw_7_37 : (Jvm.Cond.methodLink "ResidueworksModel$Whole" (1 : Nat) ({ cls := "java/lang/Object", name := "<init>", desc := "()V" } : Jvm.MethodName)) ∈ zTg := zt_7 (i := 37) rfl rfl
theorem zw_7_38 : (Jvm.Cond.fieldLink "ResidueworksModel$Whole" (7 : Nat) "ResidueworksModel$Whole" "sign" "I") ∈ zTg := zt_7 (i := 38) rfl rfl
theorem zw_7_39 : (Jvm.Cond.fieldLinkNest "ResidueworksModel" (80 : Nat) "ResidueworksModel$Whole" "sign" "I" "ResidueworksModel") ∈ zTn := zn_7 (i := 39) rfl rfl
theorem zw_7_40 : (Jvm.Cond.fieldLink "ResidueworksModel$Whole" (13 : Nat) "ResidueworksModel$Whole" "row" "[I") ∈ zTg := zt_7 (i := 40) rfl rfl
theorem zw_7_41 : (Jvm.Cond.fieldLinkNest "ResidueworksModel" (94 : Nat) "ResidueworksModel$Whole" "row" "[I" "ResidueworksModel") ∈ zTn := zn_7 (i := 41) rfl rfl
theorem zw_7_42 : (Jvm.Cond.laysFinal "ResidueworksModel$Whole" "ResidueworksModel$Whole" "sign" "I") ∈ zTg := zt_7 (i := 42) rfl rfl
theorem zw_7_44 : (Jvm.Cond.laysFinal "ResidueworksModel$Whole" "ResidueworksModel$Whole" "row" "[I") ∈ zTg := zt_7 (i := 44) rfl rfl
theorem zw_7_47 : (Jvm.Cond.fieldLink "ResidueworksModel" (144 : Nat) "ResidueworksModel" "registers" "[LResidueworksModel$Whole;") ∈ zTg := zt_7 (i := 47) rfl rfl
theorem zw_7_48 : (Jvm.Cond.fieldLink "ResidueworksModel" (151 : Nat) "ResidueworksModel" "text" "Ljava/lang/StringBuilder;") ∈ zTg := zt_7 (i := 48) rfl rfl
theorem zw_7_49 : (Jvm.Cond.fieldLink "ResidueworksModel" (158 : Nat) "ResidueworksModel" "row" "Ljava/util/List;") ∈ zTg := zt_7 (i := 49) rfl rfl
theorem zw_7_50 : (Jvm.Cond.fieldLink "ResidueworksModel" (161 : Nat) "ResidueworksModel" "rests" "Ljava/util/List;") ∈ zTg := zt_7 (i := 50) rfl rfl
theorem zw_7_51 : (Jvm.Cond.fieldLink "ResidueworksModel" (164 : Nat) "ResidueworksModel" "moduli" "Ljava/util/List;") ∈ zTg := zt_7 (i := 51) rfl rfl
theorem zw_7_52 : (Jvm.Cond.fieldLink "ResidueworksModel" (167 : Nat) "ResidueworksModel" "thrown" "I") ∈ zTg := zt_7 (i := 52) rfl rfl
theorem zw_7_53 : (Jvm.Cond.laysFinal "ResidueworksModel" "ResidueworksModel" "registers" "[LResidueworksModel$Whole;") ∈ zTg := zt_7 (i := 53) rfl rfl
theorem zw_7_55 : (Jvm.Cond.laysFinal "ResidueworksModel" "ResidueworksModel" "text" "Ljava/lang/StringBuilder;") ∈ zTg := zt_7 (i := 55) rfl rfl
theorem zw_7_57 : (Jvm.Cond.laysFinal "ResidueworksModel" "ResidueworksModel" "row" "Ljava/util/List;") ∈ zTg := zt_7 (i := 57) rfl rfl
theorem zw_7_59 : (Jvm.Cond.laysFinal "ResidueworksModel" "ResidueworksModel" "rests" "Ljava/util/List;") ∈ zTg := zt_7 (i := 59) rfl rfl
theorem zw_7_61 : (Jvm.Cond.laysFinal "ResidueworksModel" "ResidueworksModel" "moduli" "Ljava/util/List;") ∈ zTg := zt_7 (i := 61) rfl rfl
theorem zw_7_63 : (Jvm.Cond.lays "ResidueworksModel" "ResidueworksModel" "thrown" "I") ∈ zTg := zt_7 (i := 63) rfl rfl
theorem zw_7_66 : (Jvm.Cond.methodLink "ResidueworksLaw" (155 : Nat) ({ cls := "ResidueworksModel", name := "thrown", desc := "()I" } : Jvm.MethodName)) ∈ zTg := zt_7 (i := 66) rfl rfl
theorem zw_7_67 : (Jvm.Cond.instanceMethod ({ cls := "ResidueworksModel", name := "thrown", desc := "()I" } : Jvm.MethodName)) ∈ zTg := zt_7 (i := 67) rfl rfl
theorem zw_7_68 : (Jvm.Cond.selects "ResidueworksModel" ({ cls := "ResidueworksModel", name := "thrown", desc := "()I" } : Jvm.MethodName) ({ cls := "ResidueworksModel", name := "thrown", desc := "()I" } : Jvm.MethodName)) ∈ zTg := zt_7 (i := 68) rfl rfl
theorem zw_7_69 : (Jvm.Cond.code ({ cls := "ResidueworksModel", name := "thrown", desc := "()I" } : Jvm.MethodName) prog_12_method_23_code (1 : Nat) (Option.some Jvm.ClassFile.FieldType.int)) ∈ zTg := zt_7 (i := 69) rfl rfl
theorem zw_7_70 : (Jvm.Cond.methodLink "ResidueworksLaw" (154 : Nat) ({ cls := "ResidueworksModel", name := "put", desc := "(IJ)I" } : Jvm.MethodName)) ∈ zTg := zt_7 (i := 70) rfl rfl
theorem zw_7_71 : (Jvm.Cond.instanceMethod ({ cls := "ResidueworksModel", name := "put", desc := "(IJ)I" } : Jvm.MethodName)) ∈ zTg := zt_7 (i := 71) rfl rfl
theorem zw_7_72 : (Jvm.Cond.selects "ResidueworksModel" ({ cls := "ResidueworksModel", name := "put", desc := "(IJ)I" } : Jvm.MethodName) ({ cls := "ResidueworksModel", name := "put", desc := "(IJ)I" } : Jvm.MethodName)) ∈ zTg := zt_7 (i := 72) rfl rfl
theorem zw_7_73 : (Jvm.Cond.code ({ cls := "ResidueworksModel", name := "put", desc := "(IJ)I" } : Jvm.MethodName) prog_12_method_29_code (4 : Nat) (Option.some Jvm.ClassFile.FieldType.int)) ∈ zTg := zt_7 (i := 73) rfl rfl
theorem zw_7_74 : (Jvm.Cond.methodLink "ResidueworksModel" (176 : Nat) ({ cls := "ResidueworksModel", name := "are", desc := "([I)Z" } : Jvm.MethodName)) ∈ zTg := zt_7 (i := 74) rfl rfl
theorem zw_7_75 : (Jvm.Cond.static ({ cls := "ResidueworksModel", name := "are", desc := "([I)Z" } : Jvm.MethodName)) ∈ zTg := zt_7 (i := 75) rfl rfl
theorem zw_7_76 : (Jvm.Cond.code ({ cls := "ResidueworksModel", name := "are", desc := "([I)Z" } : Jvm.MethodName) prog_12_method_26_code (6 : Nat) (Option.some Jvm.ClassFile.FieldType.boolean)) ∈ zTg := zt_7 (i := 76) rfl rfl
theorem zw_7_77 : (Jvm.Cond.constantLong "ResidueworksModel" (170 : Nat) (7 : Int64)) ∈ zTg := zt_7 (i := 77) rfl rfl
theorem zw_7_78 : (Jvm.Cond.methodLink "ResidueworksModel" (172 : Nat) ({ cls := "ResidueworksModel", name := "in", desc := "(JJJ)Z" } : Jvm.MethodName)) ∈ zTg := zt_7 (i := 78) rfl rfl
theorem zw_7_79 : (Jvm.Cond.static ({ cls := "ResidueworksModel", name := "in", desc := "(JJJ)Z" } : Jvm.MethodName)) ∈ zTg := zt_7 (i := 79) rfl rfl
theorem zw_7_80 : (Jvm.Cond.code ({ cls := "ResidueworksModel", name := "in", desc := "(JJJ)Z" } : Jvm.MethodName) prog_12_method_25_code (6 : Nat) (Option.some Jvm.ClassFile.FieldType.boolean)) ∈ zTg := zt_7 (i := 80) rfl rfl
theorem zw_7_81 : (Jvm.Cond.methodLink "ResidueworksModel" (180 : Nat) ({ cls := "ResidueworksModel", name := "fails", desc := "(ZI)Z" } : Jvm.MethodName)) ∈ zTg := zt_7 (i := 81) rfl rfl
theorem zw_7_83 : (Jvm.Cond.instanceMethod ({ cls := "ResidueworksModel", name := "fails", desc := "(ZI)Z" } : Jvm.MethodName)) ∈ zTg := zt_7 (i := 83) rfl rfl
theorem zw_7_84 : (Jvm.Cond.code ({ cls := "ResidueworksModel", name := "fails", desc := "(ZI)Z" } : Jvm.MethodName) prog_12_method_24_code (3 : Nat) (Option.some Jvm.ClassFile.FieldType.boolean)) ∈ zTg := zt_7 (i := 84) rfl rfl
theorem zw_7_85 : (Jvm.Cond.methodLink "ResidueworksModel" (184 : Nat) ({ cls := "ResidueworksModel", name := "lays", desc := "(ILResidueworksModel$Whole;)I" } : Jvm.MethodName)) ∈ zTg := zt_7 (i := 85) rfl rfl
theorem zw_7_87 : (Jvm.Cond.instanceMethod ({ cls := "ResidueworksModel", name := "lays", desc := "(ILResidueworksModel$Whole;)I" } : Jvm.MethodName)) ∈ zTg := zt_7 (i := 87) rfl rfl
theorem zw_7_88 : (Jvm.Cond.code ({ cls := "ResidueworksModel", name := "lays", desc := "(ILResidueworksModel$Whole;)I" } : Jvm.MethodName) prog_12_method_27_code (3 : Nat) (Option.some Jvm.ClassFile.FieldType.int)) ∈ zTg := zt_7 (i := 88) rfl rfl
theorem zw_7_89 : (Jvm.Cond.methodLinkNest "ResidueworksModel" (124 : Nat) ({ cls := "ResidueworksModel$Whole", name := "length", desc := "()I" } : Jvm.MethodName) "ResidueworksModel") ∈ zTn := zn_7 (i := 89) rfl rfl
theorem zw_7_91 : (Jvm.Cond.instanceMethod ({ cls := "ResidueworksModel$Whole", name := "length", desc := "()I" } : Jvm.MethodName)) ∈ zTg := zt_7 (i := 91) rfl rfl
theorem zw_7_92 : (Jvm.Cond.code ({ cls := "ResidueworksModel$Whole", name := "length", desc := "()I" } : Jvm.MethodName) prog_13_method_12_code (1 : Nat) (Option.some Jvm.ClassFile.FieldType.int)) ∈ zTg := zt_7 (i := 92) rfl rfl
theorem zw_7_93 : (Jvm.Cond.methodLink "ResidueworksModel$Whole" (56 : Nat) ({ cls := "ResidueworksModel$Whole", name := "unlike", desc := "()[I" } : Jvm.MethodName)) ∈ zTg := zt_7 (i := 93) rfl rfl
theorem zw_7_95 : (Jvm.Cond.instanceMethod ({ cls := "ResidueworksModel$Whole", name := "unlike", desc := "()[I" } : Jvm.MethodName)) ∈ zTg := zt_7 (i := 95) rfl rfl
theorem zw_7_96 : (Jvm.Cond.code ({ cls := "ResidueworksModel$Whole", name := "unlike", desc := "()[I" } : Jvm.MethodName) prog_13_method_11_code (1 : Nat) (Option.some (Jvm.ClassFile.FieldType.array Jvm.ClassFile.FieldType.int))) ∈ zTg := zt_7 (i := 96) rfl rfl
theorem zw_7_97 : (Jvm.Cond.methodLinkNest "ResidueworksModel$Whole" (30 : Nat) ({ cls := "ResidueworksModel", name := "less", desc := "([I[I)[I" } : Jvm.MethodName) "ResidueworksModel") ∈ zTn := zn_7 (i := 97) rfl rfl
theorem zw_7_98 : (Jvm.Cond.static ({ cls := "ResidueworksModel", name := "less", desc := "([I[I)[I" } : Jvm.MethodName)) ∈ zTg := zt_7 (i := 98) rfl rfl
theorem zw_7_99 : (Jvm.Cond.code ({ cls := "ResidueworksModel", name := "less", desc := "([I[I)[I" } : Jvm.MethodName) prog_12_method_4_code (6 : Nat) (Option.some (Jvm.ClassFile.FieldType.array Jvm.ClassFile.FieldType.int))) ∈ zTg := zt_7 (i := 99) rfl rfl
theorem zw_7_100 : (Jvm.Cond.constant "ResidueworksModel" (13 : Nat) (65535 : Int32)) ∈ zTg := zt_7 (i := 100) rfl rfl
theorem zw_7_101 : (Jvm.Cond.methodLinkNest "ResidueworksModel$Whole" (60 : Nat) ({ cls := "ResidueworksModel", name := "bits", desc := "([I)I" } : Jvm.MethodName) "ResidueworksModel") ∈ zTn := zn_7 (i := 101) rfl rfl
theorem zw_7_102 : (Jvm.Cond.static ({ cls := "ResidueworksModel", name := "bits", desc := "([I)I" } : Jvm.MethodName)) ∈ zTg := zt_7 (i := 102) rfl rfl
theorem zw_7_103 : (Jvm.Cond.code ({ cls := "ResidueworksModel", name := "bits", desc := "([I)I" } : Jvm.MethodName) prog_12_method_6_code (1 : Nat) (Option.some Jvm.ClassFile.FieldType.int)) ∈ zTg := zt_7 (i := 103) rfl rfl
theorem zw_7_104 : (Jvm.Cond.methodLink "ResidueworksModel" (22 : Nat) ({ cls := "java/lang/Integer", name := "numberOfLeadingZeros", desc := "(I)I" } : Jvm.MethodName)) ∈ zTg := zt_7 (i := 104) rfl rfl
theorem zw_7_105 : (Jvm.Cond.methodLink "ResidueworksLaw" (161 : Nat) ({ cls := "ResidueworksModel", name := "longer", desc := "(IJ)I" } : Jvm.MethodName)) ∈ zTg := zt_7 (i := 105) rfl rfl
theorem zw_7_106 : (Jvm.Cond.instanceMethod ({ cls := "ResidueworksModel", name := "longer", desc := "(IJ)I" } : Jvm.MethodName)) ∈ zTg := zt_7 (i := 106) rfl rfl
theorem zw_7_107 : (Jvm.Cond.selects "ResidueworksModel" ({ cls := "ResidueworksModel", name := "longer", desc := "(IJ)I" } : Jvm.MethodName) ({ cls := "ResidueworksModel", name := "longer", desc := "(IJ)I" } : Jvm.MethodName)) ∈ zTg := zt_7 (i := 107) rfl rfl
theorem zw_7_108 : (Jvm.Cond.code ({ cls := "ResidueworksModel", name := "longer", desc := "(IJ)I" } : Jvm.MethodName) prog_12_method_30_code (5 : Nat) (Option.some Jvm.ClassFile.FieldType.int)) ∈ zTg := zt_7 (i := 108) rfl rfl
theorem zw_7_109 : (Jvm.Cond.methodLinkNest "ResidueworksModel" (188 : Nat) ({ cls := "ResidueworksModel$Whole", name := "shifted", desc := "(I)LResidueworksModel$Whole;" } : Jvm.MethodName) "ResidueworksModel") ∈ zTn := zn_7 (i := 109) rfl rfl
theorem zw_7_111 : (Jvm.Cond.instanceMethod ({ cls := "ResidueworksModel$Whole", name := "shifted", desc := "(I)LResidueworksModel$Whole;" } : Jvm.MethodName)) ∈ zTg := zt_7 (i := 111) rfl rfl
theorem zw_7_112 : (Jvm.Cond.code ({ cls := "ResidueworksModel$Whole", name := "shifted", desc := "(I)LResidueworksModel$Whole;" } : Jvm.MethodName) prog_13_method_15_code (2 : Nat) (Option.some (Jvm.ClassFile.FieldType.object "ResidueworksModel$Whole"))) ∈ zTg := zt_7 (i := 112) rfl rfl
theorem zw_7_113 : (Jvm.Cond.classLink "ResidueworksModel$Whole" (8 : Nat) "ResidueworksModel$Whole") ∈ zTg := zt_7 (i := 113) rfl rfl
theorem zw_7_114 : (Jvm.Cond.methodLinkNest "ResidueworksModel$Whole" (74 : Nat) ({ cls := "ResidueworksModel", name := "up", desc := "([II)[I" } : Jvm.MethodName) "ResidueworksModel") ∈ zTn := zn_7 (i := 114) rfl rfl
theorem zw_7_115 : (Jvm.Cond.static ({ cls := "ResidueworksModel", name := "up", desc := "([II)[I" } : Jvm.MethodName)) ∈ zTg := zt_7 (i := 115) rfl rfl
theorem zw_7_116 : (Jvm.Cond.code ({ cls := "ResidueworksModel", name := "up", desc := "([II)[I" } : Jvm.MethodName) prog_12_method_8_code (5 : Nat) (Option.some (Jvm.ClassFile.FieldType.array Jvm.ClassFile.FieldType.int))) ∈ zTg := zt_7 (i := 116) rfl rfl
theorem zw_7_117 : (Jvm.Cond.methodLink "ResidueworksModel$Whole" (17 : Nat) ({ cls := "ResidueworksModel$Whole", name := "<init>", desc := "(I[I)V" } : Jvm.MethodName)) ∈ zTg := zt_7 (i := 117) rfl rfl
theorem zw_7_118 : (Jvm.Cond.methodLink "ResidueworksModel$Whole" (52 : Nat) ({ cls := "ResidueworksModel$Whole", name := "isBelow", desc := "()Z" } : Jvm.MethodName)) ∈ zTg := zt_7 (i := 118) rfl rfl
theorem zw_7_120 : (Jvm.Cond.instanceMethod ({ cls := "ResidueworksModel$Whole", name := "isBelow", desc := "()Z" } : Jvm.MethodName)) ∈ zTg := zt_7 (i := 120) rfl rfl
theorem zw_7_121 : (Jvm.Cond.code ({ cls := "ResidueworksModel$Whole", name := "isBelow", desc := "()Z" } : Jvm.MethodName) prog_13_method_4_code (1 : Nat) (Option.some Jvm.ClassFile.FieldType.boolean)) ∈ zTg := zt_7 (i := 121) rfl rfl
theorem zw_7_122 : (Jvm.Cond.methodLinkNest "ResidueworksModel$Whole" (78 : Nat) ({ cls := "ResidueworksModel", name := "down", desc := "([II)[I" } : Jvm.MethodName) "ResidueworksModel") ∈ zTn := zn_7 (i := 122) rfl rfl
theorem zw_7_123 : (Jvm.Cond.static ({ cls := "ResidueworksModel", name := "down", desc := "([II)[I" } : Jvm.MethodName)) ∈ zTg := zt_7 (i := 123) rfl rfl
theorem zw_7_124 : (Jvm.Cond.code ({ cls := "ResidueworksModel", name := "down", desc := "([II)[I" } : Jvm.MethodName) prog_12_method_9_code (6 : Nat) (Option.some (Jvm.ClassFile.FieldType.array Jvm.ClassFile.FieldType.int))) ∈ zTg := zt_7 (i := 124) rfl rfl
theorem zw_7_125 : (Jvm.Cond.fieldLink "ResidueworksModel" (28 : Nat) "ResidueworksModel" "NOTHING" "[I") ∈ zTg := zt_7 (i := 125) rfl rfl
theorem zw_7_129 : (Jvm.Cond.instanceMethod ({ cls := "ResidueworksModel$Whole", name := "inverted", desc := "()LResidueworksModel$Whole;" } : Jvm.MethodName)) ∈ zTg := zt_7 (i := 129) rfl rfl
theorem zw_7_130 : (Jvm.Cond.code ({ cls := "ResidueworksModel$Whole", name := "inverted", desc := "()LResidueworksModel$Whole;" } : Jvm.MethodName) prog_13_method_14_code (1 : Nat) (Option.some (Jvm.ClassFile.FieldType.object "ResidueworksModel$Whole"))) ∈ zTg := zt_7 (i := 130) rfl rfl
theorem zw_7_131 : (Jvm.Cond.methodLink "ResidueworksModel$Whole" (33 : Nat) ({ cls := "ResidueworksModel$Whole", name := "turned", desc := "()LResidueworksModel$Whole;" } : Jvm.MethodName)) ∈ zTg := zt_7 (i := 131) rfl rfl
theorem zw_7_133 : (Jvm.Cond.instanceMethod ({ cls := "ResidueworksModel$Whole", name := "turned", desc := "()LResidueworksModel$Whole;" } : Jvm.MethodName)) ∈ zTg := zt_7 (i := 133) rfl rfl
theorem zw_7_134 : (Jvm.Cond.code ({ cls := "ResidueworksModel$Whole", name := "turned", desc := "()LResidueworksModel$Whole;" } : Jvm.MethodName) prog_13_method_2_code (1 : Nat) (Option.some (Jvm.ClassFile.FieldType.object "ResidueworksModel$Whole"))) ∈ zTg := zt_7 (i := 134) rfl rfl
theorem zw_7_135 : (Jvm.Cond.constantLong "ResidueworksModel$Whole" (68 : Nat) (-1 : Int64)) ∈ zTg := zt_7 (i := 135) rfl rfl
theorem zw_7_136 : (Jvm.Cond.methodLinkNest "ResidueworksModel$Whole" (70 : Nat) ({ cls := "ResidueworksModel", name := "of", desc := "(J)LResidueworksModel$Whole;" } : Jvm.MethodName) "ResidueworksModel") ∈ zTn := zn_7 (i := 136) rfl rfl
theorem zw_7_137 : (Jvm.Cond.methodLink "ResidueworksModel$Whole" (37 : Nat) ({ cls := "ResidueworksModel$Whole", name := "add", desc := "(LResidueworksModel$Whole;)LResidueworksModel$Whole;" } : Jvm.MethodName)) ∈ zTg := zt_7 (i := 137) rfl rfl
theorem zw_7_139 : (Jvm.Cond.instanceMethod ({ cls := "ResidueworksModel$Whole", name := "add", desc := "(LResidueworksModel$Whole;)LResidueworksModel$Whole;" } : Jvm.MethodName)) ∈ zTg := zt_7 (i := 139) rfl rfl
theorem zw_7_140 : (Jvm.Cond.code ({ cls := "ResidueworksModel$Whole", name := "add", desc := "(LResidueworksModel$Whole;)LResidueworksModel$Whole;" } : Jvm.MethodName) prog_13_method_5_code (3 : Nat) (Option.some (Jvm.ClassFile.FieldType.object "ResidueworksModel$Whole"))) ∈ zTg := zt_7 (i := 140) rfl rfl
theorem zw_7_144 : (Jvm.Cond.methodLink "ResidueworksModel" (7 : Nat) ({ cls := "java/lang/Math", name := "max", desc := "(II)I" } : Jvm.MethodName)) ∈ zTg := zt_7 (i := 144) rfl rfl
theorem zw_7_145 : (Jvm.Cond.static ({ cls := "java/lang/Math", name := "max", desc := "(II)I" } : Jvm.MethodName)) ∈ zTg := zt_7 (i := 145) rfl rfl
theorem zw_7_146 : (Jvm.Cond.code ({ cls := "java/lang/Math", name := "max", desc := "(II)I" } : Jvm.MethodName) prog_30_method_65_code (2 : Nat) (Option.some Jvm.ClassFile.FieldType.int)) ∈ zTg := zt_7 (i := 146) rfl rfl
theorem zw_7_147 : (Jvm.Cond.methodLinkNest "ResidueworksModel$Whole" (26 : Nat) ({ cls := "ResidueworksModel", name := "order", desc := "([I[I)I" } : Jvm.MethodName) "ResidueworksModel") ∈ zTn := zn_7 (i := 147) rfl rfl
theorem zw_7_148 : (Jvm.Cond.static ({ cls := "ResidueworksModel", name := "order", desc := "([I[I)I" } : Jvm.MethodName)) ∈ zTg := zt_7 (i := 148) rfl rfl
theorem zw_7_149 : (Jvm.Cond.code ({ cls := "ResidueworksModel", name := "order", desc := "([I[I)I" } : Jvm.MethodName) prog_12_method_2_code (3 : Nat) (Option.some Jvm.ClassFile.FieldType.int)) ∈ zTg := zt_7 (i := 149) rfl rfl
theorem zw_7_150 : (Jvm.Cond.methodLink "ResidueworksModel" (192 : Nat) ({ cls := "ResidueworksModel", name := "unsigned", desc := "(J)LResidueworksModel$Whole;" } : Jvm.MethodName)) ∈ zTg := zt_7 (i := 150) rfl rfl
theorem zw_7_151 : (Jvm.Cond.static ({ cls := "ResidueworksModel", name := "unsigned", desc := "(J)LResidueworksModel$Whole;" } : Jvm.MethodName)) ∈ zTg := zt_7 (i := 151) rfl rfl
theorem zw_7_152 : (Jvm.Cond.code ({ cls := "ResidueworksModel", name := "unsigned", desc := "(J)LResidueworksModel$Whole;" } : Jvm.MethodName) prog_12_method_14_code (4 : Nat) (Option.some (Jvm.ClassFile.FieldType.object "ResidueworksModel$Whole"))) ∈ zTg := zt_7 (i := 152) rfl rfl
theorem zw_7_153 : (Jvm.Cond.methodLinkNest "ResidueworksModel" (113 : Nat) ({ cls := "ResidueworksModel$Whole", name := "add", desc := "(LResidueworksModel$Whole;)LResidueworksModel$Whole;" } : Jvm.MethodName) "ResidueworksModel") ∈ zTn := zn_7 (i := 153) rfl rfl
theorem zw_7_154 : (Jvm.Cond.methodLink "ResidueworksModel" (195 : Nat) ({ cls := "ResidueworksModel", name := "isShort", desc := "(LResidueworksModel$Whole;)Z" } : Jvm.MethodName)) ∈ zTg := zt_7 (i := 154) rfl rfl
theorem zw_7_155 : (Jvm.Cond.static ({ cls := "ResidueworksModel", name := "isShort", desc := "(LResidueworksModel$Whole;)Z" } : Jvm.MethodName)) ∈ zTg := zt_7 (i := 155) rfl rfl
theorem zw_7_156 : (Jvm.Cond.code ({ cls := "ResidueworksModel", name := "isShort", desc := "(LResidueworksModel$Whole;)Z" } : Jvm.MethodName) prog_12_method_28_code (1 : Nat) (Option.some Jvm.ClassFile.FieldType.boolean)) ∈ zTg := zt_7 (i := 156) rfl rfl
theorem zw_7_157 : (Jvm.Cond.methodLink "ResidueworksLaw" (165 : Nat) ({ cls := "ResidueworksModel", name := "copy", desc := "(II)I" } : Jvm.MethodName)) ∈ zTg := zt_7 (i := 157) rfl rfl
theorem zw_7_158 : (Jvm.Cond.instanceMethod ({ cls := "ResidueworksModel", name := "copy", desc := "(II)I" } : Jvm.MethodName)) ∈ zTg := zt_7 (i := 158) rfl rfl
theorem zw_7_159 : (Jvm.Cond.selects "ResidueworksModel" ({ cls := "ResidueworksModel", name := "copy", desc := "(II)I" } : Jvm.MethodName) ({ cls := "ResidueworksModel", name := "copy", desc := "(II)I" } : Jvm.MethodName)) ∈ zTg := zt_7 (i := 159) rfl rfl
theorem zw_7_160 : (Jvm.Cond.code ({ cls := "ResidueworksModel", name := "copy", desc := "(II)I" } : Jvm.MethodName) prog_12_method_31_code (3 : Nat) (Option.some Jvm.ClassFile.FieldType.int)) ∈ zTg := zt_7 (i := 160) rfl rfl
theorem zw_7_161 : (Jvm.Cond.methodLink "ResidueworksLaw" (168 : Nat) ({ cls := "ResidueworksModel", name := "part", desc := "(II)J" } : Jvm.MethodName)) ∈ zTg := zt_7 (i := 161) rfl rfl
theorem zw_7_162 : (Jvm.Cond.instanceMethod ({ cls := "ResidueworksModel", name := "part", desc := "(II)J" } : Jvm.MethodName)) ∈ zTg := zt_7 (i := 162) rfl rfl
theorem zw_7_163 : (Jvm.Cond.selects "ResidueworksModel" ({ cls := "ResidueworksModel", name := "part", desc := "(II)J" } : Jvm.MethodName) ({ cls := "ResidueworksModel", name := "part", desc := "(II)J" } : Jvm.MethodName)) ∈ zTg := zt_7 (i := 163) rfl rfl
theorem zw_7_164 : (Jvm.Cond.code ({ cls := "ResidueworksModel", name := "part", desc := "(II)J" } : Jvm.MethodName) prog_12_method_33_code (3 : Nat) (Option.some Jvm.ClassFile.FieldType.long)) ∈ zTg := zt_7 (i := 164) rfl rfl
theorem zw_7_165 : (Jvm.Cond.constantLong "ResidueworksModel" (199 : Nat) (700 : Int64)) ∈ zTg := zt_7 (i := 165) rfl rfl
theorem zw_7_166 : (Jvm.Cond.methodLink "ResidueworksModel" (201 : Nat) ({ cls := "ResidueworksModel", name := "partOf", desc := "(LResidueworksModel$Whole;I)J" } : Jvm.MethodName)) ∈ zTg := zt_7 (i := 166) rfl rfl
theorem zw_7_167 : (Jvm.Cond.static ({ cls := "ResidueworksModel", name := "partOf", desc := "(LResidueworksModel$Whole;I)J" } : Jvm.MethodName)) ∈ zTg := zt_7 (i := 167) rfl rfl
theorem zw_7_168 : (Jvm.Cond.code ({ cls := "ResidueworksModel", name := "partOf", desc := "(LResidueworksModel$Whole;I)J" } : Jvm.MethodName) prog_12_method_32_code (5 : Nat) (Option.some Jvm.ClassFile.FieldType.long)) ∈ zTg := zt_7 (i := 168) rfl rfl
theorem zw_7_169 : (Jvm.Cond.methodLinkNest "ResidueworksModel" (132 : Nat) ({ cls := "ResidueworksModel$Whole", name := "bit", desc := "(I)Z" } : Jvm.MethodName) "ResidueworksModel") ∈ zTn := zn_7 (i := 169) rfl rfl
theorem zw_7_171 : (Jvm.Cond.instanceMethod ({ cls := "ResidueworksModel$Whole", name := "bit", desc := "(I)Z" } : Jvm.MethodName)) ∈ zTg := zt_7 (i := 171) rfl rfl
theorem zw_7_172 : (Jvm.Cond.code ({ cls := "ResidueworksModel$Whole", name := "bit", desc := "(I)Z" } : Jvm.MethodName) prog_13_method_13_code (2 : Nat) (Option.some Jvm.ClassFile.FieldType.boolean)) ∈ zTg := zt_7 (i := 172) rfl rfl
theorem zw_7_173 : (Jvm.Cond.methodLinkNest "ResidueworksModel$Whole" (64 : Nat) ({ cls := "ResidueworksModel", name := "has", desc := "([II)Z" } : Jvm.MethodName) "ResidueworksModel") ∈ zTn := zn_7 (i := 173) rfl rfl
theorem zw_7_174 : (Jvm.Cond.static ({ cls := "ResidueworksModel", name := "has", desc := "([II)Z" } : Jvm.MethodName)) ∈ zTg := zt_7 (i := 174) rfl rfl
theorem zw_7_175 : (Jvm.Cond.code ({ cls := "ResidueworksModel", name := "has", desc := "([II)Z" } : Jvm.MethodName) prog_12_method_7_code (2 : Nat) (Option.some Jvm.ClassFile.FieldType.boolean)) ∈ zTg := zt_7 (i := 175) rfl rfl
theorem zw_7_176 : (Jvm.Cond.methodLink "ResidueworksLaw" (172 : Nat) ({ cls := "ResidueworksModel", name := "tells", desc := "(IC)I" } : Jvm.MethodName)) ∈ zTg := zt_7 (i := 176) rfl rfl
theorem zw_7_177 : (Jvm.Cond.instanceMethod ({ cls := "ResidueworksModel", name := "tells", desc := "(IC)I" } : Jvm.MethodName)) ∈ zTg := zt_7 (i := 177) rfl rfl
theorem zw_7_178 : (Jvm.Cond.selects "ResidueworksModel" ({ cls := "ResidueworksModel", name := "tells", desc := "(IC)I" } : Jvm.MethodName) ({ cls := "ResidueworksModel", name := "tells", desc := "(IC)I" } : Jvm.MethodName)) ∈ zTg := zt_7 (i := 178) rfl rfl
theorem zw_7_179 : (Jvm.Cond.code ({ cls := "ResidueworksModel", name := "tells", desc := "(IC)I" } : Jvm.MethodName) prog_12_method_36_code (4 : Nat) (Option.some Jvm.ClassFile.FieldType.int)) ∈ zTg := zt_7 (i := 179) rfl rfl
theorem zw_7_181 : (Jvm.Cond.methodLink "ResidueworksModel" (214 : Nat) ({ cls := "java/lang/String", name := "indexOf", desc := "(I)I" } : Jvm.MethodName)) ∈ zTg := zt_7 (i := 181) rfl rfl
theorem zw_7_182 : (Jvm.Cond.instanceMethod ({ cls := "java/lang/String", name := "indexOf", desc := "(I)I" } : Jvm.MethodName)) ∈ zTg := zt_7 (i := 182) rfl rfl
theorem zw_7_183 : (Jvm.Cond.selects "java/lang/String" ({ cls := "java/lang/String", name := "indexOf", desc := "(I)I" } : Jvm.MethodName) ({ cls := "java/lang/String", name := "indexOf", desc := "(I)I" } : Jvm.MethodName)) ∈ zTg := zt_7 (i := 183) rfl rfl
theorem zw_7_184 : (Jvm.Cond.code ({ cls := "java/lang/String", name := "indexOf", desc := "(I)I" } : Jvm.MethodName) prog_33_method_79_code (2 : Nat) (Option.some Jvm.ClassFile.FieldType.int)) ∈ zTg := zt_7 (i := 184) rfl rfl
theorem zw_7_185 : (Jvm.Cond.methodLink "java/lang/String" (633 : Nat) ({ cls := "java/lang/String", name := "indexOf", desc := "(II)I" } : Jvm.MethodName)) ∈ zTg := zt_7 (i := 185) rfl rfl
theorem zw_7_186 : (Jvm.Cond.instanceMethod ({ cls := "java/lang/String", name := "indexOf", desc := "(II)I" } : Jvm.MethodName)) ∈ zTg := zt_7 (i := 186) rfl rfl
theorem zw_7_187 : (Jvm.Cond.selects "java/lang/String" ({ cls := "java/lang/String", name := "indexOf", desc := "(II)I" } : Jvm.MethodName) ({ cls := "java/lang/String", name := "indexOf", desc := "(II)I" } : Jvm.MethodName)) ∈ zTg := zt_7 (i := 187) rfl rfl
theorem zw_7_188 : (Jvm.Cond.code ({ cls := "java/lang/String", name := "indexOf", desc := "(II)I" } : Jvm.MethodName) prog_33_method_80_code (3 : Nat) (Option.some Jvm.ClassFile.FieldType.int)) ∈ zTg := zt_7 (i := 188) rfl rfl
theorem zw_7_189 : (Jvm.Cond.methodLink "java/lang/String" (492 : Nat) ({ cls := "java/lang/String", name := "isLatin1", desc := "()Z" } : Jvm.MethodName)) ∈ zTg := zt_7 (i := 189) rfl rfl
theorem zw_7_190 : (Jvm.Cond.instanceMethod ({ cls := "java/lang/String", name := "isLatin1", desc := "()Z" } : Jvm.MethodName)) ∈ zTg := zt_7 (i := 190) rfl rfl
theorem zw_7_191 : (Jvm.Cond.selects "java/lang/String" ({ cls := "java/lang/String", name := "isLatin1", desc := "()Z" } : Jvm.MethodName) ({ cls := "java/lang/String", name := "isLatin1", desc := "()Z" } : Jvm.MethodName)) ∈ zTg := zt_7 (i := 191) rfl rfl
theorem zw_7_192 : (Jvm.Cond.code ({ cls := "java/lang/String", name := "isLatin1", desc := "()Z" } : Jvm.MethodName) prog_33_method_154_code (1 : Nat) (Option.some Jvm.ClassFile.FieldType.boolean)) ∈ zTg := zt_7 (i := 192) rfl rfl
theorem zw_7_193 : (Jvm.Cond.fieldLink "java/lang/String" (38 : Nat) "java/lang/String" "COMPACT_STRINGS" "Z") ∈ zTg := zt_7 (i := 193) rfl rfl
theorem zw_7_194 : (Jvm.Cond.methodLink "java/lang/String" (505 : Nat) ({ cls := "java/lang/String", name := "length", desc := "()I" } : Jvm.MethodName)) ∈ zTg := zt_7 (i := 194) rfl rfl
theorem zw_7_195 : (Jvm.Cond.instanceMethod ({ cls := "java/lang/String", name := "length", desc := "()I" } : Jvm.MethodName)) ∈ zTg := zt_7 (i := 195) rfl rfl
theorem zw_7_196 : (Jvm.Cond.selects "java/lang/String" ({ cls := "java/lang/String", name := "length", desc := "()I" } : Jvm.MethodName) ({ cls := "java/lang/String", name := "length", desc := "()I" } : Jvm.MethodName)) ∈ zTg := zt_7 (i := 196) rfl rfl
theorem zw_7_197 : (Jvm.Cond.code ({ cls := "java/lang/String", name := "length", desc := "()I" } : Jvm.MethodName) prog_33_method_54_code (1 : Nat) (Option.some Jvm.ClassFile.FieldType.int)) ∈ zTg := zt_7 (i := 197) rfl rfl
theorem zw_7_198 : (Jvm.Cond.methodLink "java/lang/String" (335 : Nat) ({ cls := "java/lang/String", name := "coder", desc := "()B" } : Jvm.MethodName)) ∈ zTg := zt_7 (i := 198) rfl rfl
theorem zw_7_199 : (Jvm.Cond.instanceMethod ({ cls := "java/lang/String", name := "coder", desc := "()B" } : Jvm.MethodName)) ∈ zTg := zt_7 (i := 199) rfl rfl
theorem zw_7_200 : (Jvm.Cond.selects "java/lang/String" ({ cls := "java/lang/String", name := "coder", desc := "()B" } : Jvm.MethodName) ({ cls := "java/lang/String", name := "coder", desc := "()B" } : Jvm.MethodName)) ∈ zTg := zt_7 (i := 200) rfl rfl
theorem zw_7_201 : (Jvm.Cond.code ({ cls := "java/lang/String", name := "coder", desc := "()B" } : Jvm.MethodName) prog_33_method_152_code (1 : Nat) (Option.some Jvm.ClassFile.FieldType.byte)) ∈ zTg := zt_7 (i := 201) rfl rfl
theorem zw_7_202 : (Jvm.Cond.methodLink "java/lang/String" (637 : Nat) ({ cls := "java/lang/StringLatin1", name := "indexOf", desc := "([BIII)I" } : Jvm.MethodName)) ∈ zTg := zt_7 (i := 202) rfl rfl
theorem zw_7_203 : (Jvm.Cond.static ({ cls := "java/lang/StringLatin1", name := "indexOf", desc := "([BIII)I" } : Jvm.MethodName)) ∈ zTg := zt_7 (i := 203) rfl rfl
theorem zw_7_204 : (Jvm.Cond.code ({ cls := "java/lang/StringLatin1", name := "indexOf", desc := "([BIII)I" } : Jvm.MethodName) prog_36_method_22_code (4 : Nat) (Option.some Jvm.ClassFile.FieldType.int)) ∈ zTg := zt_7 (i := 204) rfl rfl
theorem zw_7_205 : (Jvm.Cond.methodLink "java/lang/StringLatin1" (88 : Nat) ({ cls := "java/lang/StringLatin1", name := "canEncode", desc := "(I)Z" } : Jvm.MethodName)) ∈ zTg := zt_7 (i := 205) rfl rfl
theorem zw_7_206 : (Jvm.Cond.static ({ cls := "java/lang/StringLatin1", name := "canEncode", desc := "(I)Z" } : Jvm.MethodName)) ∈ zTg := zt_7 (i := 206) rfl rfl
theorem zw_7_207 : (Jvm.Cond.code ({ cls := "java/lang/StringLatin1", name := "canEncode", desc := "(I)Z" } : Jvm.MethodName) prog_36_method_4_code (1 : Nat) (Option.some Jvm.ClassFile.FieldType.boolean)) ∈ zTg := zt_7 (i := 207) rfl rfl
theorem zw_7_208 : (Jvm.Cond.methodLink "java/lang/StringLatin1" (92 : Nat) ({ cls := "java/lang/Math", name := "max", desc := "(II)I" } : Jvm.MethodName)) ∈ zTg := zt_7 (i := 208) rfl rfl
theorem zw_7_209 : (Jvm.Cond.methodLink "java/lang/StringLatin1" (38 : Nat) ({ cls := "java/lang/Math", name := "min", desc := "(II)I" } : Jvm.MethodName)) ∈ zTg := zt_7 (i := 209) rfl rfl
theorem zw_7_210 : (Jvm.Cond.static ({ cls := "java/lang/Math", name := "min", desc := "(II)I" } : Jvm.MethodName)) ∈ zTg := zt_7 (i := 210) rfl rfl
theorem zw_7_211 : (Jvm.Cond.code ({ cls := "java/lang/Math", name := "min", desc := "(II)I" } : Jvm.MethodName) prog_30_method_69_code (2 : Nat) (Option.some Jvm.ClassFile.FieldType.int)) ∈ zTg := zt_7 (i := 211) rfl rfl
theorem zw_7_212 : (Jvm.Cond.methodLink "java/lang/StringLatin1" (95 : Nat) ({ cls := "java/lang/StringLatin1", name := "indexOfChar", desc := "([BIII)I" } : Jvm.MethodName)) ∈ zTg := zt_7 (i := 212) rfl rfl
theorem zw_7_213 : (Jvm.Cond.static ({ cls := "java/lang/StringLatin1", name := "indexOfChar", desc := "([BIII)I" } : Jvm.MethodName)) ∈ zTg := zt_7 (i := 213) rfl rfl
theorem zw_7_214 : (Jvm.Cond.code ({ cls := "java/lang/StringLatin1", name := "indexOfChar", desc := "([BIII)I" } : Jvm.MethodName) prog_36_method_23_code (6 : Nat) (Option.some Jvm.ClassFile.FieldType.int)) ∈ zTg := zt_7 (i := 214) rfl rfl
theorem zw_7_233 : (Jvm.Cond.fieldLink "java/lang/String" (1053 : Nat) "jdk/internal/util/Preconditions" "SIOOBE_FORMATTER" "Ljava/util/function/BiFunction;") ∈ zTg := zt_7 (i := 233) rfl rfl
theorem zws_8 : Cond.selects "Residueworks" ⟨"Residueworks", "divided", "(CLResidueworks$Whole;LResidueworks$Whole;)LResidueworks$Whole;"⟩ ⟨"Residueworks", "divided", "(CLResidueworks$Whole;LResidueworks$Whole;)LResidueworks$Whole;"⟩ ∈ zTg := zsel (i := 8) (q := (⟨"Residueworks", "divided", "(CLResidueworks$Whole;LResidueworks$Whole;)LResidueworks$Whole;"⟩, 10)) (by decide +kernel)
theorem zw_8_24 : (Jvm.Cond.methodLink "ResidueworksModel" (219 : Nat) ({ cls := "ResidueworksModel", name := "counted", desc := "(LResidueworksModel$Whole;)I" } : Jvm.MethodName)) ∈ zTg := zt_8 (i := 24) rfl rfl
theorem zw_8_25 : (Jvm.Cond.static ({ cls := "ResidueworksModel", name := "counted", desc := "(LResidueworksModel$Whole;)I" } : Jvm.MethodName)) ∈ zTg := zt_8 (i := 25) rfl rfl
theorem zw_8_26 : (Jvm.Cond.code ({ cls := "ResidueworksModel", name := "counted", desc := "(LResidueworksModel$Whole;)I" } : Jvm.MethodName) prog_12_method_34_code (6 : Nat) (Option.some Jvm.ClassFile.FieldType.int)) ∈ zTg := zt_8 (i := 26) rfl rfl
theorem zw_8_27 : (Jvm.Cond.methodLinkNest "ResidueworksModel" (205 : Nat) ({ cls := "ResidueworksModel$Whole", name := "unlike", desc := "()[I" } : Jvm.MethodName) "ResidueworksModel") ∈ zTn := zn_8 (i := 27) rfl rfl
theorem zw_8_29 : (Jvm.Cond.methodLink "ResidueworksModel" (222 : Nat) ({ cls := "ResidueworksModel", name := "lowest", desc := "(LResidueworksModel$Whole;)I" } : Jvm.MethodName)) ∈ zTg := zt_8 (i := 29) rfl rfl
theorem zw_8_30 : (Jvm.Cond.static ({ cls := "ResidueworksModel", name := "lowest", desc := "(LResidueworksModel$Whole;)I" } : Jvm.MethodName)) ∈ zTg := zt_8 (i := 30) rfl rfl
theorem zw_8_31 : (Jvm.Cond.code ({ cls := "ResidueworksModel", name := "lowest", desc := "(LResidueworksModel$Whole;)I" } : Jvm.MethodName) prog_12_method_35_code (2 : Nat) (Option.some Jvm.ClassFile.FieldType.int)) ∈ zTg := zt_8 (i := 31) rfl rfl
theorem zw_8_33 : (Jvm.Cond.methodLink "ResidueworksLaw" (176 : Nat) ({ cls := "ResidueworksModel", name := "exact", desc := "(I)I" } : Jvm.MethodName)) ∈ zTg := zt_8 (i := 33) rfl rfl
theorem zw_8_34 : (Jvm.Cond.instanceMethod ({ cls := "ResidueworksModel", name := "exact", desc := "(I)I" } : Jvm.MethodName)) ∈ zTg := zt_8 (i := 34) rfl rfl
theorem zw_8_35 : (Jvm.Cond.selects "ResidueworksModel" ({ cls := "ResidueworksModel", name := "exact", desc := "(I)I" } : Jvm.MethodName) ({ cls := "ResidueworksModel", name := "exact", desc := "(I)I" } : Jvm.MethodName)) ∈ zTg := zt_8 (i := 35) rfl rfl
theorem zw_8_36 : (Jvm.Cond.code ({ cls := "ResidueworksModel", name := "exact", desc := "(I)I" } : Jvm.MethodName) prog_12_method_37_code (2 : Nat) (Option.some Jvm.ClassFile.FieldType.int)) ∈ zTg := zt_8 (i := 36) rfl rfl
theorem zw_8_37 : (Jvm.Cond.methodLink "ResidueworksLaw" (179 : Nat) ({ cls := "ResidueworksModel", name := "compare", desc := "(II)I" } : Jvm.MethodName)) ∈ zTg := zt_8 (i := 37) rfl rfl
theorem zw_8_38 : (Jvm.Cond.instanceMethod ({ cls := "ResidueworksModel", name := "compare", desc := "(II)I" } : Jvm.MethodName)) ∈ zTg := zt_8 (i := 38) rfl rfl
theorem zw_8_39 : (Jvm.Cond.selects "ResidueworksModel" ({ cls := "ResidueworksModel", name := "compare", desc := "(II)I" } : Jvm.MethodName) ({ cls := "ResidueworksModel", name := "compare", desc := "(II)I" } : Jvm.MethodName)) ∈ zTg := zt_8 (i := 39) rfl rfl
theorem zw_8_40 : (Jvm.Cond.code ({ cls := "ResidueworksModel", name := "compare", desc := "(II)I" } : Jvm.MethodName) prog_12_method_38_code (3 : Nat) (Option.some Jvm.ClassFile.FieldType.int)) ∈ zTg := zt_8 (i := 40) rfl rfl
theorem zw_8_41 : (Jvm.Cond.methodLinkNest "ResidueworksModel" (120 : Nat) ({ cls := "ResidueworksModel$Whole", name := "compare", desc := "(LResidueworksModel$Whole;)I" } : Jvm.MethodName) "ResidueworksModel") ∈ zTn := zn_8 (i := 41) rfl rfl
theorem zw_8_43 : (Jvm.Cond.instanceMethod ({ cls := "ResidueworksModel$Whole", name := "compare", desc := "(LResidueworksModel$Whole;)I" } : Jvm.MethodName)) ∈ zTg := zt_8 (i := 43) rfl rfl
theorem zw_8_44 : (Jvm.Cond.code ({ cls := "ResidueworksModel$Whole", name := "compare", desc := "(LResidueworksModel$Whole;)I" } : Jvm.MethodName) prog_13_method_8_code (2 : Nat) (Option.some Jvm.ClassFile.FieldType.int)) ∈ zTg := zt_8 (i := 44) rfl rfl
theorem zw_8_45 : (Jvm.Cond.methodLink "ResidueworksLaw" (183 : Nat) ({ cls := "ResidueworksModel", name := "does", desc := "(CIII)I" } : Jvm.MethodName)) ∈ zTg := zt_8 (i := 45) rfl rfl
theorem zw_8_46 : (Jvm.Cond.instanceMethod ({ cls := "ResidueworksModel", name := "does", desc := "(CIII)I" } : Jvm.MethodName)) ∈ zTg := zt_8 (i := 46) rfl rfl
theorem zw_8_47 : (Jvm.Cond.selects "ResidueworksModel" ({ cls := "ResidueworksModel", name := "does", desc := "(CIII)I" } : Jvm.MethodName) ({ cls := "ResidueworksModel", name := "does", desc := "(CIII)I" } : Jvm.MethodName)) ∈ zTg := zt_8 (i := 47) rfl rfl
theorem zw_8_48 : (Jvm.Cond.code ({ cls := "ResidueworksModel", name := "does", desc := "(CIII)I" } : Jvm.MethodName) prog_12_method_41_code (8 : Nat) (Option.some Jvm.ClassFile.FieldType.int)) ∈ zTg := zt_8 (i := 48) rfl rfl
theorem zw_8_50 : (Jvm.Cond.methodLink "ResidueworksModel" (237 : Nat) ({ cls := "ResidueworksModel", name := "reckoned", desc := "(CLResidueworksModel$Whole;LResidueworksModel$Whole;)LResidueworksModel$Whole;" } : Jvm.MethodName)) ∈ zTg := zt_8 (i := 50) rfl rfl
theorem zw_8_51 : (Jvm.Cond.static ({ cls := "ResidueworksModel", name := "reckoned", desc := "(CLResidueworksModel$Whole;LResidueworksModel$Whole;)LResidueworksModel$Whole;" } : Jvm.MethodName)) ∈ zTg := zt_8 (i := 51) rfl rfl
theorem zw_8_52 : (Jvm.Cond.code ({ cls := "ResidueworksModel", name := "reckoned", desc := "(CLResidueworksModel$Whole;LResidueworksModel$Whole;)LResidueworksModel$Whole;" } : Jvm.MethodName) prog_12_method_39_code (3 : Nat) (Option.some (Jvm.ClassFile.FieldType.object "ResidueworksModel$Whole"))) ∈ zTg := zt_8 (i := 52) rfl rfl
theorem zw_8_53 : (Jvm.Cond.methodLinkNest "ResidueworksModel" (91 : Nat) ({ cls := "ResidueworksModel$Whole", name := "take", desc := "(LResidueworksModel$Whole;)LResidueworksModel$Whole;" } : Jvm.MethodName) "ResidueworksModel") ∈ zTn := zn_8 (i := 53) rfl rfl
theorem zw_8_55 : (Jvm.Cond.instanceMethod ({ cls := "ResidueworksModel$Whole", name := "take", desc := "(LResidueworksModel$Whole;)LResidueworksModel$Whole;" } : Jvm.MethodName)) ∈ zTg := zt_8 (i := 55) rfl rfl
theorem zw_8_56 : (Jvm.Cond.code ({ cls := "ResidueworksModel$Whole", name := "take", desc := "(LResidueworksModel$Whole;)LResidueworksModel$Whole;" } : Jvm.MethodName) prog_13_method_6_code (2 : Nat) (Option.some (Jvm.ClassFile.FieldType.object "ResidueworksModel$Whole"))) ∈ zTg := zt_8 (i := 56) rfl rfl
theorem zw_8_57 : (Jvm.Cond.methodLinkNest "ResidueworksModel" (72 : Nat) ({ cls := "ResidueworksModel$Whole", name := "multiply", desc := "(LResidueworksModel$Whole;)LResidueworksModel$Whole;" } : Jvm.MethodName) "ResidueworksModel") ∈ zTn := zn_8 (i := 57) rfl rfl
theorem zw_8_59 : (Jvm.Cond.instanceMethod ({ cls := "ResidueworksModel$Whole", name := "multiply", desc := "(LResidueworksModel$Whole;)LResidueworksModel$Whole;" } : Jvm.MethodName)) ∈ zTg := zt_8 (i := 59) rfl rfl
theorem zw_8_60 : (Jvm.Cond.code ({ cls := "ResidueworksModel$Whole", name := "multiply", desc := "(LResidueworksModel$Whole;)LResidueworksModel$Whole;" } : Jvm.MethodName) prog_13_method_7_code (2 : Nat) (Option.some (Jvm.ClassFile.FieldType.object "ResidueworksModel$Whole"))) ∈ zTg := zt_8 (i := 60) rfl rfl
theorem zw_8_61 : (Jvm.Cond.methodLinkNest "ResidueworksModel$Whole" (41 : Nat) ({ cls := "ResidueworksModel", name := "times", desc := "([I[I)[I" } : Jvm.MethodName) "ResidueworksModel") ∈ zTn := zn_8 (i := 61) rfl rfl
theorem zw_8_62 : (Jvm.Cond.static ({ cls := "ResidueworksModel", name := "times", desc := "([I[I)[I" } : Jvm.MethodName)) ∈ zTg := zt_8 (i := 62) rfl rfl
theorem zw_8_63 : (Jvm.Cond.code ({ cls := "ResidueworksModel", name := "times", desc := "([I[I)[I" } : Jvm.MethodName) prog_12_method_5_code (9 : Nat) (Option.some (Jvm.ClassFile.FieldType.array Jvm.ClassFile.FieldType.int))) ∈ zTg := zt_8 (i := 63) rfl rfl
theorem zw_8_72 : (Jvm.Cond.classLink "ResidueworksModel" (36 : Nat) "[I") ∈ zTg := zt_8 (i := 72) rfl rfl
theorem zw_8_74 : (Jvm.Cond.methodLink "ResidueworksModel" (37 : Nat) ({ cls := "ResidueworksModel", name := "partedBySmall", desc := "([II)[[I" } : Jvm.MethodName)) ∈ zTg := zt_8 (i := 74) rfl rfl
theorem zw_8_75 : (Jvm.Cond.static ({ cls := "ResidueworksModel", name := "partedBySmall", desc := "([II)[[I" } : Jvm.MethodName)) ∈ zTg := zt_8 (i := 75) rfl rfl
theorem zw_8_76 : (Jvm.Cond.code ({ cls := "ResidueworksModel", name := "partedBySmall", desc := "([II)[[I" } : Jvm.MethodName) prog_12_method_12_code (8 : Nat) (Option.some (Jvm.ClassFile.FieldType.array (Jvm.ClassFile.FieldType.array Jvm.ClassFile.FieldType.int)))) ∈ zTg := zt_8 (i := 76) rfl rfl
theorem zw_8_77 : (Jvm.Cond.methodLink "ResidueworksModel" (41 : Nat) ({ cls := "ResidueworksModel", name := "up", desc := "([II)[I" } : Jvm.MethodName)) ∈ zTg := zt_8 (i := 77) rfl rfl
theorem zw_8_91 : (Jvm.Cond.methodLink "ResidueworksModel" (225 : Nat) ({ cls := "ResidueworksModel", name := "gcd", desc := "(LResidueworksModel$Whole;LResidueworksModel$Whole;)LResidueworksModel$Whole;" } : Jvm.MethodName)) ∈ zTg := zt_8 (i := 91) rfl rfl
theorem zw_8_92 : (Jvm.Cond.static ({ cls := "ResidueworksModel", name := "gcd", desc := "(LResidueworksModel$Whole;LResidueworksModel$Whole;)LResidueworksModel$Whole;" } : Jvm.MethodName)) ∈ zTg := zt_8 (i := 92) rfl rfl
theorem zw_8_93 : (Jvm.Cond.code ({ cls := "ResidueworksModel", name := "gcd", desc := "(LResidueworksModel$Whole;LResidueworksModel$Whole;)LResidueworksModel$Whole;" } : Jvm.MethodName) prog_12_method_16_code (5 : Nat) (Option.some (Jvm.ClassFile.FieldType.object "ResidueworksModel$Whole"))) ∈ zTg := zt_8 (i := 93) rfl rfl
theorem zw_8_94 : (Jvm.Cond.methodLinkNest "ResidueworksModel" (76 : Nat) ({ cls := "ResidueworksModel$Whole", name := "amount", desc := "()LResidueworksModel$Whole;" } : Jvm.MethodName) "ResidueworksModel") ∈ zTn := zn_8 (i := 94) rfl rfl
theorem zw_8_96 : (Jvm.Cond.instanceMethod ({ cls := "ResidueworksModel$Whole", name := "amount", desc := "()LResidueworksModel$Whole;" } : Jvm.MethodName)) ∈ zTg := zt_8 (i := 96) rfl rfl
theorem zw_8_97 : (Jvm.Cond.code ({ cls := "ResidueworksModel$Whole", name := "amount", desc := "()LResidueworksModel$Whole;" } : Jvm.MethodName) prog_13_method_3_code (1 : Nat) (Option.some (Jvm.ClassFile.FieldType.object "ResidueworksModel$Whole"))) ∈ zTg := zt_8 (i := 97) rfl rfl
theorem zw_8_98 : (Jvm.Cond.methodLink "ResidueworksModel" (228 : Nat) ({ cls := "ResidueworksModel", name := "common", desc := "(LResidueworksModel$Whole;LResidueworksModel$Whole;)LResidueworksModel$Whole;" } : Jvm.MethodName)) ∈ zTg := zt_8 (i := 98) rfl rfl
theorem zw_8_99 : (Jvm.Cond.static ({ cls := "ResidueworksModel", name := "common", desc := "(LResidueworksModel$Whole;LResidueworksModel$Whole;)LResidueworksModel$Whole;" } : Jvm.MethodName)) ∈ zTg := zt_8 (i := 99) rfl rfl
theorem zw_8_100 : (Jvm.Cond.code ({ cls := "ResidueworksModel", name := "common", desc := "(LResidueworksModel$Whole;LResidueworksModel$Whole;)LResidueworksModel$Whole;" } : Jvm.MethodName) prog_12_method_40_code (2 : Nat) (Option.some (Jvm.ClassFile.FieldType.object "ResidueworksModel$Whole"))) ∈ zTg := zt_8 (i := 100) rfl rfl
theorem zw_8_101 : (Jvm.Cond.methodLink "ResidueworksModel" (231 : Nat) ({ cls := "ResidueworksModel", name := "logic", desc := "(CLResidueworksModel$Whole;LResidueworksModel$Whole;)LResidueworksModel$Whole;" } : Jvm.MethodName)) ∈ zTg := zt_8 (i := 101) rfl rfl
theorem zw_8_102 : (Jvm.Cond.static ({ cls := "ResidueworksModel", name := "logic", desc := "(CLResidueworksModel$Whole;LResidueworksModel$Whole;)LResidueworksModel$Whole;" } : Jvm.MethodName)) ∈ zTg := zt_8 (i := 102) rfl rfl
theorem zw_8_103 : (Jvm.Cond.code ({ cls := "ResidueworksModel", name := "logic", desc := "(CLResidueworksModel$Whole;LResidueworksModel$Whole;)LResidueworksModel$Whole;" } : Jvm.MethodName) prog_12_method_20_code (7 : Nat) (Option.some (Jvm.ClassFile.FieldType.object "ResidueworksModel$Whole"))) ∈ zTg := zt_8 (i := 103) rfl rfl
theorem zw_8_104 : (Jvm.Cond.methodLinkNest "ResidueworksModel" (105 : Nat) ({ cls := "ResidueworksModel$Whole", name := "isBelow", desc := "()Z" } : Jvm.MethodName) "ResidueworksModel") ∈ zTn := zn_8 (i := 104) rfl rfl
theorem zw_8_105 : (Jvm.Cond.methodLink "ResidueworksModel" (128 : Nat) ({ cls := "ResidueworksModel", name := "joined", desc := "(CZZ)Z" } : Jvm.MethodName)) ∈ zTg := zt_8 (i := 105) rfl rfl
theorem zw_8_106 : (Jvm.Cond.static ({ cls := "ResidueworksModel", name := "joined", desc := "(CZZ)Z" } : Jvm.MethodName)) ∈ zTg := zt_8 (i := 106) rfl rfl
theorem zw_8_107 : (Jvm.Cond.code ({ cls := "ResidueworksModel", name := "joined", desc := "(CZZ)Z" } : Jvm.MethodName) prog_12_method_21_code (3 : Nat) (Option.some Jvm.ClassFile.FieldType.boolean)) ∈ zTg := zt_8 (i := 107) rfl rfl
theorem zw_8_108 : (Jvm.Cond.methodLinkNest "ResidueworksModel" (136 : Nat) ({ cls := "ResidueworksModel$Whole", name := "inverted", desc := "()LResidueworksModel$Whole;" } : Jvm.MethodName) "ResidueworksModel") ∈ zTn := zn_8 (i := 108) rfl rfl
theorem zw_8_109 : (Jvm.Cond.methodLink "ResidueworksLaw" (187 : Nat) ({ cls := "ResidueworksModel", name := "alone", desc := "(CII)I" } : Jvm.MethodName)) ∈ zTg := zt_8 (i := 109) rfl rfl
theorem zw_8_110 : (Jvm.Cond.instanceMethod ({ cls := "ResidueworksModel", name := "alone", desc := "(CII)I" } : Jvm.MethodName)) ∈ zTg := zt_8 (i := 110) rfl rfl
theorem zw_8_111 : (Jvm.Cond.selects "ResidueworksModel" ({ cls := "ResidueworksModel", name := "alone", desc := "(CII)I" } : Jvm.MethodName) ({ cls := "ResidueworksModel", name := "alone", desc := "(CII)I" } : Jvm.MethodName)) ∈ zTg := zt_8 (i := 111) rfl rfl
theorem zw_8_112 : (Jvm.Cond.code ({ cls := "ResidueworksModel", name := "alone", desc := "(CII)I" } : Jvm.MethodName) prog_12_method_42_code (6 : Nat) (Option.some Jvm.ClassFile.FieldType.int)) ∈ zTg := zt_8 (i := 112) rfl rfl
theorem zw_8_114 : (Jvm.Cond.methodLinkNest "ResidueworksModel" (242 : Nat) ({ cls := "ResidueworksModel$Whole", name := "turned", desc := "()LResidueworksModel$Whole;" } : Jvm.MethodName) "ResidueworksModel") ∈ zTn := zn_8 (i := 114) rfl rfl
theorem zw_8_115 : (Jvm.Cond.methodLink "ResidueworksModel" (245 : Nat) ({ cls := "ResidueworksModel", name := "root", desc := "(LResidueworksModel$Whole;I)LResidueworksModel$Whole;" } : Jvm.MethodName)) ∈ zTg := zt_8 (i := 115) rfl rfl
theorem zw_8_116 : (Jvm.Cond.static ({ cls := "ResidueworksModel", name := "root", desc := "(LResidueworksModel$Whole;I)LResidueworksModel$Whole;" } : Jvm.MethodName)) ∈ zTg := zt_8 (i := 116) rfl rfl
theorem zw_8_117 : (Jvm.Cond.code ({ cls := "ResidueworksModel", name := "root", desc := "(LResidueworksModel$Whole;I)LResidueworksModel$Whole;" } : Jvm.MethodName) prog_12_method_19_code (5 : Nat) (Option.some (Jvm.ClassFile.FieldType.object "ResidueworksModel$Whole"))) ∈ zTg := zt_8 (i := 117) rfl rfl
theorem zw_8_118 : (Jvm.Cond.methodLink "ResidueworksModel" (97 : Nat) ({ cls := "ResidueworksModel", name := "bits", desc := "([I)I" } : Jvm.MethodName)) ∈ zTg := zt_8 (i := 118) rfl rfl
theorem zw_8_119 : (Jvm.Cond.methodLink "ResidueworksModel" (116 : Nat) ({ cls := "ResidueworksModel", name := "power", desc := "(LResidueworksModel$Whole;I)LResidueworksModel$Whole;" } : Jvm.MethodName)) ∈ zTg := zt_8 (i := 119) rfl rfl
theorem zw_8_120 : (Jvm.Cond.static ({ cls := "ResidueworksModel", name := "power", desc := "(LResidueworksModel$Whole;I)LResidueworksModel$Whole;" } : Jvm.MethodName)) ∈ zTg := zt_8 (i := 120) rfl rfl
theorem zw_8_121 : (Jvm.Cond.code ({ cls := "ResidueworksModel", name := "power", desc := "(LResidueworksModel$Whole;I)LResidueworksModel$Whole;" } : Jvm.MethodName) prog_12_method_15_code (5 : Nat) (Option.some (Jvm.ClassFile.FieldType.object "ResidueworksModel$Whole"))) ∈ zTg := zt_8 (i := 121) rfl rfl
theorem zw_8_122 : (Jvm.Cond.methodLink "ResidueworksLaw" (191 : Nat) ({ cls := "ResidueworksModel", name := "shifts", desc := "(III)I" } : Jvm.MethodName)) ∈ zTg := zt_8 (i := 122) rfl rfl
theorem zw_8_123 : (Jvm.Cond.instanceMethod ({ cls := "ResidueworksModel", name := "shifts", desc := "(III)I" } : Jvm.MethodName)) ∈ zTg := zt_8 (i := 123) rfl rfl
theorem zw_8_124 : (Jvm.Cond.selects "ResidueworksModel" ({ cls := "ResidueworksModel", name := "shifts", desc := "(III)I" } : Jvm.MethodName) ({ cls := "ResidueworksModel", name := "shifts", desc := "(III)I" } : Jvm.MethodName)) ∈ zTg := zt_8 (i := 124) rfl rfl
theorem zw_8_125 : (Jvm.Cond.code ({ cls := "ResidueworksModel", name := "shifts", desc := "(III)I" } : Jvm.MethodName) prog_12_method_43_code (5 : Nat) (Option.some Jvm.ClassFile.FieldType.int)) ∈ zTg := zt_8 (i := 125) rfl rfl
theorem zw_8_126 : (Jvm.Cond.constantLong "ResidueworksModel" (248 : Nat) (-700 : Int64)) ∈ zTg := zt_8 (i := 126) rfl rfl
theorem zw_8_127 : (Jvm.Cond.methodLink "ResidueworksLaw" (194 : Nat) ({ cls := "ResidueworksModel", name := "bit", desc := "(II)Z" } : Jvm.MethodName)) ∈ zTg := zt_8 (i := 127) rfl rfl
theorem zw_8_128 : (Jvm.Cond.instanceMethod ({ cls := "ResidueworksModel", name := "bit", desc := "(II)Z" } : Jvm.MethodName)) ∈ zTg := zt_8 (i := 128) rfl rfl
theorem zw_8_129 : (Jvm.Cond.selects "ResidueworksModel" ({ cls := "ResidueworksModel", name := "bit", desc := "(II)Z" } : Jvm.MethodName) ({ cls := "ResidueworksModel", name := "bit", desc := "(II)Z" } : Jvm.MethodName)) ∈ zTg := zt_8 (i := 129) rfl rfl
theorem zw_8_130 : (Jvm.Cond.code ({ cls := "ResidueworksModel", name := "bit", desc := "(II)Z" } : Jvm.MethodName) prog_12_method_44_code (3 : Nat) (Option.some Jvm.ClassFile.FieldType.boolean)) ∈ zTg := zt_8 (i := 130) rfl rfl
theorem zw_8_131 : (Jvm.Cond.methodLink "ResidueworksLaw" (198 : Nat) ({ cls := "ResidueworksModel", name := "setBit", desc := "(IIC)I" } : Jvm.MethodName)) ∈ zTg := zt_8 (i := 131) rfl rfl
theorem zw_8_132 : (Jvm.Cond.instanceMethod ({ cls := "ResidueworksModel", name := "setBit", desc := "(IIC)I" } : Jvm.MethodName)) ∈ zTg := zt_8 (i := 132) rfl rfl
theorem zw_8_133 : (Jvm.Cond.selects "ResidueworksModel" ({ cls := "ResidueworksModel", name := "setBit", desc := "(IIC)I" } : Jvm.MethodName) ({ cls := "ResidueworksModel", name := "setBit", desc := "(IIC)I" } : Jvm.MethodName)) ∈ zTg := zt_8 (i := 133) rfl rfl
theorem zw_8_134 : (Jvm.Cond.code ({ cls := "ResidueworksModel", name := "setBit", desc := "(IIC)I" } : Jvm.MethodName) prog_12_method_45_code (9 : Nat) (Option.some Jvm.ClassFile.FieldType.int)) ∈ zTg := zt_8 (i := 134) rfl rfl
theorem zw_8_135 : (Jvm.Cond.constantLong "ResidueworksModel" (250 : Nat) (599 : Int64)) ∈ zTg := zt_8 (i := 135) rfl rfl
theorem zw_8_137 : (Jvm.Cond.methodLink "ResidueworksLaw" (201 : Nat) ({ cls := "ResidueworksModel", name := "power", desc := "(III)I" } : Jvm.MethodName)) ∈ zTg := zt_8 (i := 137) rfl rfl
theorem zw_8_138 : (Jvm.Cond.instanceMethod ({ cls := "ResidueworksModel", name := "power", desc := "(III)I" } : Jvm.MethodName)) ∈ zTg := zt_8 (i := 138) rfl rfl
theorem zw_8_139 : (Jvm.Cond.selects "ResidueworksModel" ({ cls := "ResidueworksModel", name := "power", desc := "(III)I" } : Jvm.MethodName) ({ cls := "ResidueworksModel", name := "power", desc := "(III)I" } : Jvm.MethodName)) ∈ zTg := zt_8 (i := 139) rfl rfl
theorem zw_8_140 : (Jvm.Cond.code ({ cls := "ResidueworksModel", name := "power", desc := "(III)I" } : Jvm.MethodName) prog_12_method_46_code (5 : Nat) (Option.some Jvm.ClassFile.FieldType.int)) ∈ zTg := zt_8 (i := 140) rfl rfl
theorem zw_8_141 : (Jvm.Cond.constantLong "ResidueworksModel" (254 : Nat) (64 : Int64)) ∈ zTg := zt_8 (i := 141) rfl rfl
theorem zw_8_142 : (Jvm.Cond.methodLink "ResidueworksLaw" (205 : Nat) ({ cls := "ResidueworksModel", name := "divides", desc := "(IIII)I" } : Jvm.MethodName)) ∈ zTg := zt_8 (i := 142) rfl rfl
theorem zw_8_143 : (Jvm.Cond.instanceMethod ({ cls := "ResidueworksModel", name := "divides", desc := "(IIII)I" } : Jvm.MethodName)) ∈ zTg := zt_8 (i := 143) rfl rfl
theorem zw_8_144 : (Jvm.Cond.selects "ResidueworksModel" ({ cls := "ResidueworksModel", name := "divides", desc := "(IIII)I" } : Jvm.MethodName) ({ cls := "ResidueworksModel", name := "divides", desc := "(IIII)I" } : Jvm.MethodName)) ∈ zTg := zt_8 (i := 144) rfl rfl
theorem zw_8_145 : (Jvm.Cond.code ({ cls := "ResidueworksModel", name := "divides", desc := "(IIII)I" } : Jvm.MethodName) prog_12_method_47_code (6 : Nat) (Option.some Jvm.ClassFile.FieldType.int)) ∈ zTg := zt_8 (i := 145) rfl rfl
theorem zw_8_146 : (Jvm.Cond.methodLink "ResidueworksLaw" (209 : Nat) ({ cls := "ResidueworksModel", name := "type", desc := "(C)I" } : Jvm.MethodName)) ∈ zTg := zt_8 (i := 146) rfl rfl
theorem zw_8_147 : (Jvm.Cond.instanceMethod ({ cls := "ResidueworksModel", name := "type", desc := "(C)I" } : Jvm.MethodName)) ∈ zTg := zt_8 (i := 147) rfl rfl
theorem zw_8_148 : (Jvm.Cond.selects "ResidueworksModel" ({ cls := "ResidueworksModel", name := "type", desc := "(C)I" } : Jvm.MethodName) ({ cls := "ResidueworksModel", name := "type", desc := "(C)I" } : Jvm.MethodName)) ∈ zTg := zt_8 (i := 148) rfl rfl
theorem zw_8_149 : (Jvm.Cond.code ({ cls := "ResidueworksModel", name := "type", desc := "(C)I" } : Jvm.MethodName) prog_12_method_48_code (2 : Nat) (Option.some Jvm.ClassFile.FieldType.int)) ∈ zTg := zt_8 (i := 149) rfl rfl
theorem zw_8_150 : (Jvm.Cond.constantLong "ResidueworksModel" (256 : Nat) (33 : Int64)) ∈ zTg := zt_8 (i := 150) rfl rfl
theorem zw_8_151 : (Jvm.Cond.constantLong "ResidueworksModel" (258 : Nat) (126 : Int64)) ∈ zTg := zt_8 (i := 151) rfl rfl
theorem zw_8_152 : (Jvm.Cond.methodLink "ResidueworksModel" (260 : Nat) ({ cls := "java/lang/StringBuilder", name := "length", desc := "()I" } : Jvm.MethodName)) ∈ zTg := zt_8 (i := 152) rfl rfl
theorem zw_8_153 : (Jvm.Cond.instanceMethod ({ cls := "java/lang/StringBuilder", name := "length", desc := "()I" } : Jvm.MethodName)) ∈ zTg := zt_8 (i := 153) rfl rfl
theorem zw_8_154 : (Jvm.Cond.selects "java/lang/StringBuilder" ({ cls := "java/lang/StringBuilder", name := "length", desc := "()I" } : Jvm.MethodName) ({ cls := "java/lang/StringBuilder", name := "length", desc := "()I" } : Jvm.MethodName)) ∈ zTg := zt_8 (i := 154) rfl rfl
theorem zw_8_155 : (Jvm.Cond.code ({ cls := "java/lang/StringBuilder", name := "length", desc := "()I" } : Jvm.MethodName) prog_34_method_93_code (1 : Nat) (Option.some Jvm.ClassFile.FieldType.int)) ∈ zTg := zt_8 (i := 155) rfl rfl
theorem zw_8_156 : (Jvm.Cond.methodLink "java/lang/StringBuilder" (343 : Nat) ({ cls := "java/lang/AbstractStringBuilder", name := "length", desc := "()I" } : Jvm.MethodName)) ∈ zTg := zt_8 (i := 156) rfl rfl
theorem zw_8_157 : (Jvm.Cond.instanceMethod ({ cls := "java/lang/AbstractStringBuilder", name := "length", desc := "()I" } : Jvm.MethodName)) ∈ zTg := zt_8 (i := 157) rfl rfl
theorem zw_8_158 : (Jvm.Cond.code ({ cls := "java/lang/AbstractStringBuilder", name := "length", desc := "()I" } : Jvm.MethodName) prog_15_method_6_code (1 : Nat) (Option.some Jvm.ClassFile.FieldType.int)) ∈ zTg := zt_8 (i := 158) rfl rfl
theorem zw_8_159 : (Jvm.Cond.methodLink "ResidueworksModel" (261 : Nat) ({ cls := "java/lang/StringBuilder", name := "append", desc := "(C)Ljava/lang/StringBuilder;" } : Jvm.MethodName)) ∈ zTg := zt_8 (i := 159) rfl rfl
theorem zw_8_160 : (Jvm.Cond.instanceMethod ({ cls := "java/lang/StringBuilder", name := "append", desc := "(C)Ljava/lang/StringBuilder;" } : Jvm.MethodName)) ∈ zTg := zt_8 (i := 160) rfl rfl
theorem zw_8_161 : (Jvm.Cond.selects "java/lang/StringBuilder" ({ cls := "java/lang/StringBuilder", name := "append", desc := "(C)Ljava/lang/StringBuilder;" } : Jvm.MethodName) ({ cls := "java/lang/StringBuilder", name := "append", desc := "(C)Ljava/lang/StringBuilder;" } : Jvm.MethodName)) ∈ zTg := zt_8 (i := 161) rfl rfl
theorem zw_8_162 : (Jvm.Cond.code ({ cls := "java/lang/StringBuilder", name := "append", desc := "(C)Ljava/lang/StringBuilder;" } : Jvm.MethodName) prog_34_method_14_code (2 : Nat) (Option.some (Jvm.ClassFile.FieldType.object "java/lang/StringBuilder"))) ∈ zTg := zt_8 (i := 162) rfl rfl
theorem zw_8_163 : (Jvm.Cond.methodLink "java/lang/StringBuilder" (50 : Nat) ({ cls := "java/lang/AbstractStringBuilder", name := "append", desc := "(C)Ljava/lang/AbstractStringBuilder;" } : Jvm.MethodName)) ∈ zTg := zt_8 (i := 163) rfl rfl
theorem zw_8_164 : (Jvm.Cond.instanceMethod ({ cls := "java/lang/AbstractStringBuilder", name := "append", desc := "(C)Ljava/lang/AbstractStringBuilder;" } : Jvm.MethodName)) ∈ zTg := zt_8 (i := 164) rfl rfl
theorem zw_8_165 : (Jvm.Cond.code ({ cls := "java/lang/AbstractStringBuilder", name := "append", desc := "(C)Ljava/lang/AbstractStringBuilder;" } : Jvm.MethodName) prog_15_method_31_code (2 : Nat) (Option.some (Jvm.ClassFile.FieldType.object "java/lang/AbstractStringBuilder"))) ∈ zTg := zt_8 (i := 165) rfl rfl
theorem zw_8_166 : (Jvm.Cond.methodLink "java/lang/AbstractStringBuilder" (100 : Nat) ({ cls := "java/lang/AbstractStringBuilder", name := "ensureCapacityInternal", desc := "(I)V" } : Jvm.MethodName)) ∈ zTg := zt_8 (i := 166) rfl rfl
theorem zw_8_168 : (Jvm.Cond.instanceMethod ({ cls := "java/lang/AbstractStringBuilder", name := "ensureCapacityInternal", desc := "(I)V" } : Jvm.MethodName)) ∈ zTg := zt_8 (i := 168) rfl rfl
theorem zw_8_169 : (Jvm.Cond.code ({ cls := "java/lang/AbstractStringBuilder", name := "ensureCapacityInternal", desc := "(I)V" } : Jvm.MethodName) prog_15_method_9_code (3 : Nat) (Option.none : Option Jvm.ClassFile.FieldType)) ∈ zTg := zt_8 (i := 169) rfl rfl
theorem zw_8_195 : (Jvm.Cond.methodLink "java/lang/AbstractStringBuilder" (83 : Nat) ({ cls := "java/lang/AbstractStringBuilder", name := "isLatin1", desc := "()Z" } : Jvm.MethodName)) ∈ zTg := zt_8 (i := 195) rfl rfl
theorem zw_8_196 : (Jvm.Cond.instanceMethod ({ cls := "java/lang/AbstractStringBuilder", name := "isLatin1", desc := "()Z" } : Jvm.MethodName)) ∈ zTg := zt_8 (i := 196) rfl rfl
theorem zw_8_198 : (Jvm.Cond.selects "java/lang/StringBuilder" ({ cls := "java/lang/AbstractStringBuilder", name := "isLatin1", desc := "()Z" } : Jvm.MethodName) ({ cls := "java/lang/AbstractStringBuilder", name := "isLatin1", desc := "()Z" } : Jvm.MethodName)) ∈ zTg := zt_8 (i := 198) rfl rfl
theorem zw_8_199 : (Jvm.Cond.code ({ cls := "java/lang/AbstractStringBuilder", name := "isLatin1", desc := "()Z" } : Jvm.MethodName) prog_15_method_68_code (1 : Nat) (Option.some Jvm.ClassFile.FieldType.boolean)) ∈ zTg := zt_8 (i := 199) rfl rfl
theorem zw_8_200 : (Jvm.Cond.methodLink "java/lang/AbstractStringBuilder" (191 : Nat) ({ cls := "java/lang/StringLatin1", name := "canEncode", desc := "(C)Z" } : Jvm.MethodName)) ∈ zTg := zt_8 (i := 200) rfl rfl
theorem zw_8_201 : (Jvm.Cond.static ({ cls := "java/lang/StringLatin1", name := "canEncode", desc := "(C)Z" } : Jvm.MethodName)) ∈ zTg := zt_8 (i := 201) rfl rfl
theorem zw_8_202 : (Jvm.Cond.code ({ cls := "java/lang/StringLatin1", name := "canEncode", desc := "(C)Z" } : Jvm.MethodName) prog_36_method_3_code (1 : Nat) (Option.some Jvm.ClassFile.FieldType.boolean)) ∈ zTg := zt_8 (i := 202) rfl rfl
theorem zw_8_232 : (Jvm.Cond.static ({ cls := "java/lang/String", name := "checkIndex", desc := "(II)V" } : Jvm.MethodName)) ∈ zTg := zt_8 (i := 232) rfl rfl
theorem zw_8_233 : (Jvm.Cond.code ({ cls := "java/lang/String", name := "checkIndex", desc := "(II)V" } : Jvm.MethodName) prog_33_method_155_code (2 : Nat) (Option.none : Option Jvm.ClassFile.FieldType)) ∈ zTg := zt_8 (i := 233) rfl rfl
theorem zw_8_234 : (Jvm.Cond.methodLink "java/lang/String" (1059 : Nat) ({ cls := "jdk/internal/util/Preconditions", name := "checkIndex", desc := "(IILjava/util/function/BiFunction;)I" } : Jvm.MethodName)) ∈ zTg := zt_8 (i := 234) rfl rfl
theorem zw_8_235 : (Jvm.Cond.static ({ cls := "jdk/internal/util/Preconditions", name := "checkIndex", desc := "(IILjava/util/function/BiFunction;)I" } : Jvm.MethodName)) ∈ zTg := zt_8 (i := 235) rfl rfl
theorem zw_8_236 : (Jvm.Cond.code ({ cls := "jdk/internal/util/Preconditions", name := "checkIndex", desc := "(IILjava/util/function/BiFunction;)I" } : Jvm.MethodName) prog_55_method_11_code (3 : Nat) (Option.some Jvm.ClassFile.FieldType.int)) ∈ zTg := zt_8 (i := 236) rfl rfl
theorem zw_8_237 : (Jvm.Cond.methodLink "ResidueworksLaw" (213 : Nat) ({ cls := "ResidueworksModel", name := "erase", desc := "()I" } : Jvm.MethodName)) ∈ zTg := zt_8 (i := 237) rfl rfl
theorem zw_8_238 : (Jvm.Cond.instanceMethod ({ cls := "ResidueworksModel", name := "erase", desc := "()I" } : Jvm.MethodName)) ∈ zTg := zt_8 (i := 238) rfl rfl
theorem zw_8_239 : (Jvm.Cond.selects "ResidueworksModel" ({ cls := "ResidueworksModel", name := "erase", desc := "()I" } : Jvm.MethodName) ({ cls := "ResidueworksModel", name := "erase", desc := "()I" } : Jvm.MethodName)) ∈ zTg := zt_8 (i := 239) rfl rfl
theorem zws_9 : Cond.selects "Residueworks$Division" ⟨"Residueworks$Division", "guessDigit", "(I)J"⟩ ⟨"Residueworks$Division", "guessDigit", "(I)J"⟩ ∈ zTg := zsel (i := 9) (q := (⟨"Residueworks$Division", "guessDigit", "(I)J"⟩, 3)) (by decide +kernel)
theorem zw_9_0 : (Jvm.Cond.code ({ cls := "ResidueworksModel", name := "erase", desc := "()I" } : Jvm.MethodName) prog_12_method_49_code (2 : Nat) (Option.some Jvm.ClassFile.FieldType.int)) ∈ zTg := zt_9 (i := 0) rfl rfl
theorem zw_9_1 : (Jvm.Cond.methodLink "ResidueworksModel" (265 : Nat) ({ cls := "java/lang/StringBuilder", name := "setLength", desc := "(I)V" } : Jvm.MethodName)) ∈ zTg := zt_9 (i := 1) rfl rfl
theorem zw_9_2 : (Jvm.Cond.instanceMethod ({ cls := "java/lang/StringBuilder", name := "setLength", desc := "(I)V" } : Jvm.MethodName)) ∈ zTg := zt_9 (i := 2) rfl rfl
theorem zw_9_3 : (Jvm.Cond.selects "java/lang/StringBuilder" ({ cls := "java/lang/StringBuilder", name := "setLength", desc := "(I)V" } : Jvm.MethodName) ({ cls := "java/lang/StringBuilder", name := "setLength", desc := "(I)V" } : Jvm.MethodName)) ∈ zTg := zt_9 (i := 3) rfl rfl
theorem zw_9_4 : (Jvm.Cond.code ({ cls := "java/lang/StringBuilder", name := "setLength", desc := "(I)V" } : Jvm.MethodName) prog_34_method_89_code (2 : Nat) (Option.none : Option Jvm.ClassFile.FieldType)) ∈ zTg := zt_9 (i := 4) rfl rfl
theorem zw_9_5 : (Jvm.Cond.methodLink "java/lang/StringBuilder" (333 : Nat) ({ cls := "java/lang/AbstractStringBuilder", name := "setLength", desc := "(I)V" } : Jvm.MethodName)) ∈ zTg := zt_9 (i := 5) rfl rfl
theorem zw_9_6 : (Jvm.Cond.instanceMethod ({ cls := "java/lang/AbstractStringBuilder", name := "setLength", desc := "(I)V" } : Jvm.MethodName)) ∈ zTg := zt_9 (i := 6) rfl rfl
theorem zw_9_7 : (Jvm.Cond.code ({ cls := "java/lang/AbstractStringBuilder", name := "setLength", desc := "(I)V" } : Jvm.MethodName) prog_15_method_13_code (2 : Nat) (Option.none : Option Jvm.ClassFile.FieldType)) ∈ zTg := zt_9 (i := 7) rfl rfl
theorem zw_9_117 : (Jvm.Cond.fieldLink "java/lang/String" (9 : Nat) "java/lang/String" "value" "[B") ∈ zTg := zt_9 (i := 117) rfl rfl
theorem zw_9_118 : (Jvm.Cond.fieldLink "java/lang/String" (15 : Nat) "java/lang/String" "coder" "B") ∈ zTg := zt_9 (i := 118) rfl rfl
theorem zw_9_158 : (Jvm.Cond.methodLink "ResidueworksLaw" (216 : Nat) ({ cls := "ResidueworksModel", name := "signAt", desc := "(I)C" } : Jvm.MethodName)) ∈ zTg := zt_9 (i := 158) rfl rfl
theorem zw_9_159 : (Jvm.Cond.instanceMethod ({ cls := "ResidueworksModel", name := "signAt", desc := "(I)C" } : Jvm.MethodName)) ∈ zTg := zt_9 (i := 159) rfl rfl
theorem zw_9_160 : (Jvm.Cond.selects "ResidueworksModel" ({ cls := "ResidueworksModel", name := "signAt", desc := "(I)C" } : Jvm.MethodName) ({ cls := "ResidueworksModel", name := "signAt", desc := "(I)C" } : Jvm.MethodName)) ∈ zTg := zt_9 (i := 160) rfl rfl
theorem zw_9_161 : (Jvm.Cond.code ({ cls := "ResidueworksModel", name := "signAt", desc := "(I)C" } : Jvm.MethodName) prog_12_method_50_code (2 : Nat) (Option.some Jvm.ClassFile.FieldType.char)) ∈ zTg := zt_9 (i := 161) rfl rfl
theorem zw_9_162 : (Jvm.Cond.methodLink "ResidueworksModel" (269 : Nat) ({ cls := "java/lang/StringBuilder", name := "charAt", desc := "(I)C" } : Jvm.MethodName)) ∈ zTg := zt_9 (i := 162) rfl rfl
theorem zw_9_163 : (Jvm.Cond.instanceMethod ({ cls := "java/lang/StringBuilder", name := "charAt", desc := "(I)C" } : Jvm.MethodName)) ∈ zTg := zt_9 (i := 163) rfl rfl
theorem zw_9_164 : (Jvm.Cond.selects "java/lang/StringBuilder" ({ cls := "java/lang/StringBuilder", name := "charAt", desc := "(I)C" } : Jvm.MethodName) ({ cls := "java/lang/StringBuilder", name := "charAt", desc := "(I)C" } : Jvm.MethodName)) ∈ zTg := zt_9 (i := 164) rfl rfl
theorem zw_9_165 : (Jvm.Cond.code ({ cls := "java/lang/StringBuilder", name := "charAt", desc := "(I)C" } : Jvm.MethodName) prog_34_method_88_code (2 : Nat) (Option.some Jvm.ClassFile.FieldType.char)) ∈ zTg := zt_9 (i := 165) rfl rfl
theorem zw_9_166 : (Jvm.Cond.methodLink "java/lang/StringBuilder" (329 : Nat) ({ cls := "java/lang/AbstractStringBuilder", name := "charAt", desc := "(I)C" } : Jvm.MethodName)) ∈ zTg := zt_9 (i := 166) rfl rfl
theorem zw_9_167 : (Jvm.Cond.instanceMethod ({ cls := "java/lang/AbstractStringBuilder", name := "charAt", desc := "(I)C" } : Jvm.MethodName)) ∈ zTg := zt_9 (i := 167) rfl rfl
theorem zw_9_168 : (Jvm.Cond.code ({ cls := "java/lang/AbstractStringBuilder", name := "charAt", desc := "(I)C" } : Jvm.MethodName) prog_15_method_14_code (5 : Nat) (Option.some Jvm.ClassFile.FieldType.char)) ∈ zTg := zt_9 (i := 168) rfl rfl
theorem zw_9_169 : (Jvm.Cond.methodLink "java/lang/AbstractStringBuilder" (138 : Nat) ({ cls := "java/lang/Math", name := "min", desc := "(II)I" } : Jvm.MethodName)) ∈ zTg := zt_9 (i := 169) rfl rfl
theorem zw_9_170 : (Jvm.Cond.methodLink "java/lang/AbstractStringBuilder" (144 : Nat) ({ cls := "java/lang/String", name := "checkIndex", desc := "(II)V" } : Jvm.MethodName)) ∈ zTg := zt_9 (i := 170) rfl rfl
theorem zw_9_172 : (Jvm.Cond.methodLink "ResidueworksLaw" (219 : Nat) ({ cls := "ResidueworksModel", name := "read", desc := "(II)I" } : Jvm.MethodName)) ∈ zTg := zt_9 (i := 172) rfl rfl
theorem zw_9_173 : (Jvm.Cond.instanceMethod ({ cls := "ResidueworksModel", name := "read", desc := "(II)I" } : Jvm.MethodName)) ∈ zTg := zt_9 (i := 173) rfl rfl
theorem zw_9_174 : (Jvm.Cond.selects "ResidueworksModel" ({ cls := "ResidueworksModel", name := "read", desc := "(II)I" } : Jvm.MethodName) ({ cls := "ResidueworksModel", name := "read", desc := "(II)I" } : Jvm.MethodName)) ∈ zTg := zt_9 (i := 174) rfl rfl
theorem zw_9_175 : (Jvm.Cond.code ({ cls := "ResidueworksModel", name := "read", desc := "(II)I" } : Jvm.MethodName) prog_12_method_52_code (9 : Nat) (Option.some Jvm.ClassFile.FieldType.int)) ∈ zTg := zt_9 (i := 175) rfl rfl
theorem zw_9_176 : (Jvm.Cond.constantLong "ResidueworksModel" (273 : Nat) (2 : Int64)) ∈ zTg := zt_9 (i := 176) rfl rfl
theorem zw_9_177 : (Jvm.Cond.constantLong "ResidueworksModel" (275 : Nat) (36 : Int64)) ∈ zTg := zt_9 (i := 177) rfl rfl
theorem zw_9_181 : (Jvm.Cond.methodLink "ResidueworksLaw" (222 : Nat) ({ cls := "ResidueworksModel", name := "write", desc := "(II)I" } : Jvm.MethodName)) ∈ zTg := zt_9 (i := 181) rfl rfl
theorem zw_9_182 : (Jvm.Cond.instanceMethod ({ cls := "ResidueworksModel", name := "write", desc := "(II)I" } : Jvm.MethodName)) ∈ zTg := zt_9 (i := 182) rfl rfl
theorem zw_9_183 : (Jvm.Cond.selects "ResidueworksModel" ({ cls := "ResidueworksModel", name := "write", desc := "(II)I" } : Jvm.MethodName) ({ cls := "ResidueworksModel", name := "write", desc := "(II)I" } : Jvm.MethodName)) ∈ zTg := zt_9 (i := 183) rfl rfl
theorem zw_9_184 : (Jvm.Cond.code ({ cls := "ResidueworksModel", name := "write", desc := "(II)I" } : Jvm.MethodName) prog_12_method_53_code (7 : Nat) (Option.some Jvm.ClassFile.FieldType.int)) ∈ zTg := zt_9 (i := 184) rfl rfl
theorem zw_9_186 : (Jvm.Cond.methodLink "ResidueworksModel" (283 : Nat) ({ cls := "java/lang/String", name := "charAt", desc := "(I)C" } : Jvm.MethodName)) ∈ zTg := zt_9 (i := 186) rfl rfl
theorem zw_9_187 : (Jvm.Cond.instanceMethod ({ cls := "java/lang/String", name := "charAt", desc := "(I)C" } : Jvm.MethodName)) ∈ zTg := zt_9 (i := 187) rfl rfl
theorem zw_9_188 : (Jvm.Cond.selects "java/lang/String" ({ cls := "java/lang/String", name := "charAt", desc := "(I)C" } : Jvm.MethodName) ({ cls := "java/lang/String", name := "charAt", desc := "(I)C" } : Jvm.MethodName)) ∈ zTg := zt_9 (i := 188) rfl rfl
theorem zw_9_189 : (Jvm.Cond.code ({ cls := "java/lang/String", name := "charAt", desc := "(I)C" } : Jvm.MethodName) prog_33_method_56_code (2 : Nat) (Option.some Jvm.ClassFile.FieldType.char)) ∈ zTg := zt_9 (i := 189) rfl rfl
theorem zw_9_190 : (Jvm.Cond.methodLink "java/lang/String" (495 : Nat) ({ cls := "java/lang/StringLatin1", name := "charAt", desc := "([BI)C" } : Jvm.MethodName)) ∈ zTg := zt_9 (i := 190) rfl rfl
theorem zw_9_191 : (Jvm.Cond.static ({ cls := "java/lang/StringLatin1", name := "charAt", desc := "([BI)C" } : Jvm.MethodName)) ∈ zTg := zt_9 (i := 191) rfl rfl
theorem zw_9_192 : (Jvm.Cond.code ({ cls := "java/lang/StringLatin1", name := "charAt", desc := "([BI)C" } : Jvm.MethodName) prog_36_method_2_code (2 : Nat) (Option.some Jvm.ClassFile.FieldType.char)) ∈ zTg := zt_9 (i := 192) rfl rfl
theorem zw_9_193 : (Jvm.Cond.methodLink "java/lang/StringLatin1" (9 : Nat) ({ cls := "java/lang/String", name := "checkIndex", desc := "(II)V" } : Jvm.MethodName)) ∈ zTg := zt_9 (i := 193) rfl rfl
theorem zw_9_197 : (Jvm.Cond.methodLink "ResidueworksLaw" (225 : Nat) ({ cls := "ResidueworksModel", name := "push", desc := "(I)I" } : Jvm.MethodName)) ∈ zTg := zt_9 (i := 197) rfl rfl
theorem zw_9_198 : (Jvm.Cond.instanceMethod ({ cls := "ResidueworksModel", name := "push", desc := "(I)I" } : Jvm.MethodName)) ∈ zTg := zt_9 (i := 198) rfl rfl
theorem zw_9_199 : (Jvm.Cond.selects "ResidueworksModel" ({ cls := "ResidueworksModel", name := "push", desc := "(I)I" } : Jvm.MethodName) ({ cls := "ResidueworksModel", name := "push", desc := "(I)I" } : Jvm.MethodName)) ∈ zTg := zt_9 (i := 199) rfl rfl
theorem zw_9_200 : (Jvm.Cond.code ({ cls := "ResidueworksModel", name := "push", desc := "(I)I" } : Jvm.MethodName) prog_12_method_54_code (2 : Nat) (Option.some Jvm.ClassFile.FieldType.int)) ∈ zTg := zt_9 (i := 200) rfl rfl
theorem zw_9_201 : (Jvm.Cond.constantLong "ResidueworksModel" (284 : Nat) (-128 : Int64)) ∈ zTg := zt_9 (i := 201) rfl rfl
theorem zw_9_202 : (Jvm.Cond.constantLong "ResidueworksModel" (286 : Nat) (127 : Int64)) ∈ zTg := zt_9 (i := 202) rfl rfl
theorem zw_9_204 : (Jvm.Cond.methodLink "ResidueworksModel" (288 : Nat) ({ cls := "java/util/List", name := "size", desc := "()I" } : Jvm.MethodName)) ∈ zTg := zt_9 (i := 204) rfl rfl
theorem zw_9_208 : (Jvm.Cond.selects "java/util/ArrayList" ({ cls := "java/util/List", name := "size", desc := "()I" } : Jvm.MethodName) ({ cls := "java/util/ArrayList", name := "size", desc := "()I" } : Jvm.MethodName)) ∈ zTg := zt_9 (i := 208) rfl rfl
theorem zw_9_210 : (Jvm.Cond.instanceMethod ({ cls := "java/util/ArrayList", name := "size", desc := "()I" } : Jvm.MethodName)) ∈ zTg := zt_9 (i := 210) rfl rfl
theorem zw_9_212 : (Jvm.Cond.code ({ cls := "java/util/ArrayList", name := "size", desc := "()I" } : Jvm.MethodName) prog_44_method_8_code (1 : Nat) (Option.some Jvm.ClassFile.FieldType.int)) ∈ zTg := zt_9 (i := 212) rfl rfl
theorem zw_9_213 : (Jvm.Cond.methodLink "ResidueworksModel" (293 : Nat) ({ cls := "java/lang/Integer", name := "valueOf", desc := "(I)Ljava/lang/Integer;" } : Jvm.MethodName)) ∈ zTg := zt_9 (i := 213) rfl rfl
theorem zw_9_214 : (Jvm.Cond.static ({ cls := "java/lang/Integer", name := "valueOf", desc := "(I)Ljava/lang/Integer;" } : Jvm.MethodName)) ∈ zTg := zt_9 (i := 214) rfl rfl
theorem zw_9_215 : (Jvm.Cond.code ({ cls := "java/lang/Integer", name := "valueOf", desc := "(I)Ljava/lang/Integer;" } : Jvm.MethodName) prog_27_method_22_code (1 : Nat) (Option.some (Jvm.ClassFile.FieldType.object "java/lang/Integer"))) ∈ zTg := zt_9 (i := 215) rfl rfl
theorem zw_9_216 : (Jvm.Cond.fieldLink "java/lang/Integer" (191 : Nat) "java/lang/Integer$IntegerCache" "high" "I") ∈ zTg := zt_9 (i := 216) rfl rfl
theorem zw_9_218 : (Jvm.Cond.fieldLink "java/lang/Integer" (195 : Nat) "java/lang/Integer$IntegerCache" "cache" "[Ljava/lang/Integer;") ∈ zTg := zt_9 (i := 218) rfl rfl
theorem zw_9_230 : (Jvm.Cond.laysFinal "java/lang/Integer" "java/lang/Integer" "value" "I") ∈ zTg := zt_9 (i := 230) rfl rfl
theorem zw_9_234 : (Jvm.Cond.methodLink "ResidueworksModel" (297 : Nat) ({ cls := "java/util/List", name := "add", desc := "(Ljava/lang/Object;)Z" } : Jvm.MethodName)) ∈ zTg := zt_9 (i := 234) rfl rfl
theorem zw_9_237 : (Jvm.Cond.selects "java/util/ArrayList" ({ cls := "java/util/List", name := "add", desc := "(Ljava/lang/Object;)Z" } : Jvm.MethodName) ({ cls := "java/util/ArrayList", name := "add", desc := "(Ljava/lang/Object;)Z" } : Jvm.MethodName)) ∈ zTg := zt_9 (i := 237) rfl rfl
theorem zw_9_239 : (Jvm.Cond.instanceMethod ({ cls := "java/util/ArrayList", name := "add", desc := "(Ljava/lang/Object;)Z" } : Jvm.MethodName)) ∈ zTg := zt_9 (i := 239) rfl rfl
theorem zws_10 : Cond.selects "Residueworks$Division" ⟨"Residueworks$Division", "subtractTimes", "(JI)Z"⟩ ⟨"Residueworks$Division", "subtractTimes", "(JI)Z"⟩ ∈ zTg := zsel (i := 10) (q := (⟨"Residueworks$Division", "subtractTimes", "(JI)Z"⟩, 3)) (by decide +kernel)
theorem zw_10_1 : (Jvm.Cond.code ({ cls := "java/util/ArrayList", name := "add", desc := "(Ljava/lang/Object;)Z" } : Jvm.MethodName) prog_44_method_25_code (2 : Nat) (Option.some Jvm.ClassFile.FieldType.boolean)) ∈ zTg := zt_10 (i := 1) rfl rfl
theorem zw_10_2 : (Jvm.Cond.methodLink "java/util/ArrayList" (131 : Nat) ({ cls := "java/util/ArrayList", name := "add", desc := "(Ljava/lang/Object;[Ljava/lang/Object;I)V" } : Jvm.MethodName)) ∈ zTg := zt_10 (i := 2) rfl rfl
theorem zw_10_4 : (Jvm.Cond.instanceMethod ({ cls := "java/util/ArrayList", name := "add", desc := "(Ljava/lang/Object;[Ljava/lang/Object;I)V" } : Jvm.MethodName)) ∈ zTg := zt_10 (i := 4) rfl rfl
theorem zw_10_5 : (Jvm.Cond.code ({ cls := "java/util/ArrayList", name := "add", desc := "(Ljava/lang/Object;[Ljava/lang/Object;I)V" } : Jvm.MethodName) prog_44_method_24_code (4 : Nat) (Option.none : Option Jvm.ClassFile.FieldType)) ∈ zTg := zt_10 (i := 5) rfl rfl
theorem zw_10_6 : (Jvm.Cond.methodLink "java/util/ArrayList" (129 : Nat) ({ cls := "java/util/ArrayList", name := "grow", desc := "()[Ljava/lang/Object;" } : Jvm.MethodName)) ∈ zTg := zt_10 (i := 6) rfl rfl
theorem zw_10_8 : (Jvm.Cond.instanceMethod ({ cls := "java/util/ArrayList", name := "grow", desc := "()[Ljava/lang/Object;" } : Jvm.MethodName)) ∈ zTg := zt_10 (i := 8) rfl rfl
theorem zw_10_9 : (Jvm.Cond.code ({ cls := "java/util/ArrayList", name := "grow", desc := "()[Ljava/lang/Object;" } : Jvm.MethodName) prog_44_method_7_code (1 : Nat) (Option.some (Jvm.ClassFile.FieldType.array (Jvm.ClassFile.FieldType.object "java/lang/Object")))) ∈ zTg := zt_10 (i := 9) rfl rfl
theorem zw_10_10 : (Jvm.Cond.methodLink "java/util/ArrayList" (69 : Nat) ({ cls := "java/util/ArrayList", name := "grow", desc := "(I)[Ljava/lang/Object;" } : Jvm.MethodName)) ∈ zTg := zt_10 (i := 10) rfl rfl
theorem zw_10_12 : (Jvm.Cond.instanceMethod ({ cls := "java/util/ArrayList", name := "grow", desc := "(I)[Ljava/lang/Object;" } : Jvm.MethodName)) ∈ zTg := zt_10 (i := 12) rfl rfl
theorem zw_10_13 : (Jvm.Cond.code ({ cls := "java/util/ArrayList", name := "grow", desc := "(I)[Ljava/lang/Object;" } : Jvm.MethodName) prog_44_method_6_code (4 : Nat) (Option.some (Jvm.ClassFile.FieldType.array (Jvm.ClassFile.FieldType.object "java/lang/Object")))) ∈ zTg := zt_10 (i := 13) rfl rfl
theorem zw_10_49 : (Jvm.Cond.arrayOver (Jvm.ClassFile.FieldType.object "java/lang/Object")) ∈ zTn := zn_10 (i := 49) rfl rfl
theorem zw_10_51 : (Jvm.Cond.methodLink "java/util/ArrayList" (79 : Nat) ({ cls := "java/lang/Math", name := "max", desc := "(II)I" } : Jvm.MethodName)) ∈ zTg := zt_10 (i := 51) rfl rfl
theorem zw_10_52 : (Jvm.Cond.classLink "java/util/ArrayList" (7 : Nat) "java/lang/Object") ∈ zTg := zt_10 (i := 52) rfl rfl
theorem zw_10_53 : (Jvm.Cond.methodLink "ResidueworksLaw" (229 : Nat) ({ cls := "ResidueworksModel", name := "clearRow", desc := "()I" } : Jvm.MethodName)) ∈ zTg := zt_10 (i := 53) rfl rfl
theorem zw_10_54 : (Jvm.Cond.instanceMethod ({ cls := "ResidueworksModel", name := "clearRow", desc := "()I" } : Jvm.MethodName)) ∈ zTg := zt_10 (i := 54) rfl rfl
theorem zw_10_55 : (Jvm.Cond.selects "ResidueworksModel" ({ cls := "ResidueworksModel", name := "clearRow", desc := "()I" } : Jvm.MethodName) ({ cls := "ResidueworksModel", name := "clearRow", desc := "()I" } : Jvm.MethodName)) ∈ zTg := zt_10 (i := 55) rfl rfl
theorem zw_10_56 : (Jvm.Cond.code ({ cls := "ResidueworksModel", name := "clearRow", desc := "()I" } : Jvm.MethodName) prog_12_method_55_code (2 : Nat) (Option.some Jvm.ClassFile.FieldType.int)) ∈ zTg := zt_10 (i := 56) rfl rfl
theorem zw_10_58 : (Jvm.Cond.methodLink "ResidueworksModel" (300 : Nat) ({ cls := "java/util/List", name := "clear", desc := "()V" } : Jvm.MethodName)) ∈ zTg := zt_10 (i := 58) rfl rfl
theorem zw_10_61 : (Jvm.Cond.selects "java/util/ArrayList" ({ cls := "java/util/List", name := "clear", desc := "()V" } : Jvm.MethodName) ({ cls := "java/util/ArrayList", name := "clear", desc := "()V" } : Jvm.MethodName)) ∈ zTg := zt_10 (i := 61) rfl rfl
theorem zw_10_63 : (Jvm.Cond.instanceMethod ({ cls := "java/util/ArrayList", name := "clear", desc := "()V" } : Jvm.MethodName)) ∈ zTg := zt_10 (i := 63) rfl rfl
theorem zw_10_65 : (Jvm.Cond.code ({ cls := "java/util/ArrayList", name := "clear", desc := "()V" } : Jvm.MethodName) prog_44_method_40_code (4 : Nat) (Option.none : Option Jvm.ClassFile.FieldType)) ∈ zTg := zt_10 (i := 65) rfl rfl
theorem zw_10_66 : (Jvm.Cond.methodLink "ResidueworksLaw" (232 : Nat) ({ cls := "ResidueworksModel", name := "fromRow", desc := "(I)I" } : Jvm.MethodName)) ∈ zTg := zt_10 (i := 66) rfl rfl
theorem zw_10_67 : (Jvm.Cond.instanceMethod ({ cls := "ResidueworksModel", name := "fromRow", desc := "(I)I" } : Jvm.MethodName)) ∈ zTg := zt_10 (i := 67) rfl rfl
theorem zw_10_68 : (Jvm.Cond.selects "ResidueworksModel" ({ cls := "ResidueworksModel", name := "fromRow", desc := "(I)I" } : Jvm.MethodName) ({ cls := "ResidueworksModel", name := "fromRow", desc := "(I)I" } : Jvm.MethodName)) ∈ zTg := zt_10 (i := 68) rfl rfl
theorem zw_10_69 : (Jvm.Cond.code ({ cls := "ResidueworksModel", name := "fromRow", desc := "(I)I" } : Jvm.MethodName) prog_12_method_56_code (4 : Nat) (Option.some Jvm.ClassFile.FieldType.int)) ∈ zTg := zt_10 (i := 69) rfl rfl
theorem zw_10_71 : (Jvm.Cond.methodLink "ResidueworksModel" (303 : Nat) ({ cls := "java/util/List", name := "isEmpty", desc := "()Z" } : Jvm.MethodName)) ∈ zTg := zt_10 (i := 71) rfl rfl
theorem zw_10_74 : (Jvm.Cond.selects "java/util/ArrayList" ({ cls := "java/util/List", name := "isEmpty", desc := "()Z" } : Jvm.MethodName) ({ cls := "java/util/ArrayList", name := "isEmpty", desc := "()Z" } : Jvm.MethodName)) ∈ zTg := zt_10 (i := 74) rfl rfl
theorem zw_10_76 : (Jvm.Cond.instanceMethod ({ cls := "java/util/ArrayList", name := "isEmpty", desc := "()Z" } : Jvm.MethodName)) ∈ zTg := zt_10 (i := 76) rfl rfl
theorem zw_10_78 : (Jvm.Cond.code ({ cls := "java/util/ArrayList", name := "isEmpty", desc := "()Z" } : Jvm.MethodName) prog_44_method_9_code (1 : Nat) (Option.some Jvm.ClassFile.FieldType.boolean)) ∈ zTg := zt_10 (i := 78) rfl rfl
theorem zw_10_101 : (Jvm.Cond.methodLink "ResidueworksLaw" (235 : Nat) ({ cls := "ResidueworksModel", name := "toRow", desc := "(I)I" } : Jvm.MethodName)) ∈ zTg := zt_10 (i := 101) rfl rfl
theorem zw_10_102 : (Jvm.Cond.instanceMethod ({ cls := "ResidueworksModel", name := "toRow", desc := "(I)I" } : Jvm.MethodName)) ∈ zTg := zt_10 (i := 102) rfl rfl
theorem zw_10_103 : (Jvm.Cond.selects "ResidueworksModel" ({ cls := "ResidueworksModel", name := "toRow", desc := "(I)I" } : Jvm.MethodName) ({ cls := "ResidueworksModel", name := "toRow", desc := "(I)I" } : Jvm.MethodName)) ∈ zTg := zt_10 (i := 103) rfl rfl
theorem zw_10_104 : (Jvm.Cond.code ({ cls := "ResidueworksModel", name := "toRow", desc := "(I)I" } : Jvm.MethodName) prog_12_method_57_code (4 : Nat) (Option.some Jvm.ClassFile.FieldType.int)) ∈ zTg := zt_10 (i := 104) rfl rfl
theorem zw_10_105 : (Jvm.Cond.constantLong "ResidueworksModel" (313 : Nat) (255 : Int64)) ∈ zTg := zt_10 (i := 105) rfl rfl
theorem zw_10_106 : (Jvm.Cond.methodLink "ResidueworksLaw" (238 : Nat) ({ cls := "ResidueworksModel", name := "byteAt", desc := "(I)I" } : Jvm.MethodName)) ∈ zTg := zt_10 (i := 106) rfl rfl
theorem zw_10_107 : (Jvm.Cond.instanceMethod ({ cls := "ResidueworksModel", name := "byteAt", desc := "(I)I" } : Jvm.MethodName)) ∈ zTg := zt_10 (i := 107) rfl rfl
theorem zw_10_108 : (Jvm.Cond.selects "ResidueworksModel" ({ cls := "ResidueworksModel", name := "byteAt", desc := "(I)I" } : Jvm.MethodName) ({ cls := "ResidueworksModel", name := "byteAt", desc := "(I)I" } : Jvm.MethodName)) ∈ zTg := zt_10 (i := 108) rfl rfl
theorem zw_10_109 : (Jvm.Cond.code ({ cls := "ResidueworksModel", name := "byteAt", desc := "(I)I" } : Jvm.MethodName) prog_12_method_58_code (2 : Nat) (Option.some Jvm.ClassFile.FieldType.int)) ∈ zTg := zt_10 (i := 109) rfl rfl
theorem zw_10_110 : (Jvm.Cond.methodLink "ResidueworksLaw" (241 : Nat) ({ cls := "ResidueworksModel", name := "modPower", desc := "(IIII)I" } : Jvm.MethodName)) ∈ zTg := zt_10 (i := 110) rfl rfl
theorem zw_10_111 : (Jvm.Cond.instanceMethod ({ cls := "ResidueworksModel", name := "modPower", desc := "(IIII)I" } : Jvm.MethodName)) ∈ zTg := zt_10 (i := 111) rfl rfl
theorem zw_10_112 : (Jvm.Cond.selects "ResidueworksModel" ({ cls := "ResidueworksModel", name := "modPower", desc := "(IIII)I" } : Jvm.MethodName) ({ cls := "ResidueworksModel", name := "modPower", desc := "(IIII)I" } : Jvm.MethodName)) ∈ zTg := zt_10 (i := 112) rfl rfl
theorem zw_10_113 : (Jvm.Cond.code ({ cls := "ResidueworksModel", name := "modPower", desc := "(IIII)I" } : Jvm.MethodName) prog_12_method_60_code (7 : Nat) (Option.some Jvm.ClassFile.FieldType.int)) ∈ zTg := zt_10 (i := 113) rfl rfl
theorem zw_10_123 : (Jvm.Cond.methodLink "ResidueworksLaw" (244 : Nat) ({ cls := "ResidueworksModel", name := "inverse", desc := "(III)I" } : Jvm.MethodName)) ∈ zTg := zt_10 (i := 123) rfl rfl
theorem zw_10_124 : (Jvm.Cond.instanceMethod ({ cls := "ResidueworksModel", name := "inverse", desc := "(III)I" } : Jvm.MethodName)) ∈ zTg := zt_10 (i := 124) rfl rfl
theorem zw_10_125 : (Jvm.Cond.selects "ResidueworksModel" ({ cls := "ResidueworksModel", name := "inverse", desc := "(III)I" } : Jvm.MethodName) ({ cls := "ResidueworksModel", name := "inverse", desc := "(III)I" } : Jvm.MethodName)) ∈ zTg := zt_10 (i := 125) rfl rfl
theorem zw_10_126 : (Jvm.Cond.code ({ cls := "ResidueworksModel", name := "inverse", desc := "(III)I" } : Jvm.MethodName) prog_12_method_61_code (5 : Nat) (Option.some Jvm.ClassFile.FieldType.int)) ∈ zTg := zt_10 (i := 126) rfl rfl
theorem zw_10_127 : (Jvm.Cond.methodLink "ResidueworksLaw" (247 : Nat) ({ cls := "ResidueworksModel", name := "symbol", desc := "(II)I" } : Jvm.MethodName)) ∈ zTg := zt_10 (i := 127) rfl rfl
theorem zw_10_128 : (Jvm.Cond.instanceMethod ({ cls := "ResidueworksModel", name := "symbol", desc := "(II)I" } : Jvm.MethodName)) ∈ zTg := zt_10 (i := 128) rfl rfl
theorem zw_10_129 : (Jvm.Cond.selects "ResidueworksModel" ({ cls := "ResidueworksModel", name := "symbol", desc := "(II)I" } : Jvm.MethodName) ({ cls := "ResidueworksModel", name := "symbol", desc := "(II)I" } : Jvm.MethodName)) ∈ zTg := zt_10 (i := 129) rfl rfl
theorem zw_10_130 : (Jvm.Cond.code ({ cls := "ResidueworksModel", name := "symbol", desc := "(II)I" } : Jvm.MethodName) prog_12_method_63_code (7 : Nat) (Option.some Jvm.ClassFile.FieldType.int)) ∈ zTg := zt_10 (i := 130) rfl rfl
theorem zw_10_134 : (Jvm.Cond.methodLink "ResidueworksLaw" (250 : Nat) ({ cls := "ResidueworksModel", name := "units", desc := "(I)I" } : Jvm.MethodName)) ∈ zTg := zt_10 (i := 134) rfl rfl
theorem zw_10_135 : (Jvm.Cond.instanceMethod ({ cls := "ResidueworksModel", name := "units", desc := "(I)I" } : Jvm.MethodName)) ∈ zTg := zt_10 (i := 135) rfl rfl
theorem zw_10_136 : (Jvm.Cond.selects "ResidueworksModel" ({ cls := "ResidueworksModel", name := "units", desc := "(I)I" } : Jvm.MethodName) ({ cls := "ResidueworksModel", name := "units", desc := "(I)I" } : Jvm.MethodName)) ∈ zTg := zt_10 (i := 136) rfl rfl
theorem zw_10_137 : (Jvm.Cond.code ({ cls := "ResidueworksModel", name := "units", desc := "(I)I" } : Jvm.MethodName) prog_12_method_67_code (2 : Nat) (Option.some Jvm.ClassFile.FieldType.int)) ∈ zTg := zt_10 (i := 137) rfl rfl
theorem zw_10_138 : (Jvm.Cond.methodLink "ResidueworksModel" (328 : Nat) ({ cls := "ResidueworksModel", name := "small", desc := "(II)I" } : Jvm.MethodName)) ∈ zTg := zt_10 (i := 138) rfl rfl
theorem zw_10_140 : (Jvm.Cond.instanceMethod ({ cls := "ResidueworksModel", name := "small", desc := "(II)I" } : Jvm.MethodName)) ∈ zTg := zt_10 (i := 140) rfl rfl
theorem zw_10_141 : (Jvm.Cond.code ({ cls := "ResidueworksModel", name := "small", desc := "(II)I" } : Jvm.MethodName) prog_12_method_64_code (4 : Nat) (Option.some Jvm.ClassFile.FieldType.int)) ∈ zTg := zt_10 (i := 141) rfl rfl
theorem zw_10_148 : (Jvm.Cond.methodLink "ResidueworksLaw" (253 : Nat) ({ cls := "ResidueworksModel", name := "order", desc := "(II)I" } : Jvm.MethodName)) ∈ zTg := zt_10 (i := 148) rfl rfl
theorem zw_10_149 : (Jvm.Cond.instanceMethod ({ cls := "ResidueworksModel", name := "order", desc := "(II)I" } : Jvm.MethodName)) ∈ zTg := zt_10 (i := 149) rfl rfl
theorem zw_10_150 : (Jvm.Cond.selects "ResidueworksModel" ({ cls := "ResidueworksModel", name := "order", desc := "(II)I" } : Jvm.MethodName) ({ cls := "ResidueworksModel", name := "order", desc := "(II)I" } : Jvm.MethodName)) ∈ zTg := zt_10 (i := 150) rfl rfl
theorem zw_10_151 : (Jvm.Cond.code ({ cls := "ResidueworksModel", name := "order", desc := "(II)I" } : Jvm.MethodName) prog_12_method_70_code (4 : Nat) (Option.some Jvm.ClassFile.FieldType.int)) ∈ zTg := zt_10 (i := 151) rfl rfl
theorem zw_10_159 : (Jvm.Cond.methodLink "ResidueworksLaw" (256 : Nat) ({ cls := "ResidueworksModel", name := "generator", desc := "(I)I" } : Jvm.MethodName)) ∈ zTg := zt_10 (i := 159) rfl rfl
theorem zw_10_160 : (Jvm.Cond.instanceMethod ({ cls := "ResidueworksModel", name := "generator", desc := "(I)I" } : Jvm.MethodName)) ∈ zTg := zt_10 (i := 160) rfl rfl
theorem zw_10_161 : (Jvm.Cond.selects "ResidueworksModel" ({ cls := "ResidueworksModel", name := "generator", desc := "(I)I" } : Jvm.MethodName) ({ cls := "ResidueworksModel", name := "generator", desc := "(I)I" } : Jvm.MethodName)) ∈ zTg := zt_10 (i := 161) rfl rfl
theorem zw_10_162 : (Jvm.Cond.code ({ cls := "ResidueworksModel", name := "generator", desc := "(I)I" } : Jvm.MethodName) prog_12_method_71_code (5 : Nat) (Option.some Jvm.ClassFile.FieldType.int)) ∈ zTg := zt_10 (i := 162) rfl rfl
theorem zw_10_163 : (Jvm.Cond.methodLink "ResidueworksLaw" (259 : Nat) ({ cls := "ResidueworksModel", name := "isPrime", desc := "(I)Z" } : Jvm.MethodName)) ∈ zTg := zt_10 (i := 163) rfl rfl
theorem zw_10_164 : (Jvm.Cond.instanceMethod ({ cls := "ResidueworksModel", name := "isPrime", desc := "(I)Z" } : Jvm.MethodName)) ∈ zTg := zt_10 (i := 164) rfl rfl
theorem zw_10_165 : (Jvm.Cond.selects "ResidueworksModel" ({ cls := "ResidueworksModel", name := "isPrime", desc := "(I)Z" } : Jvm.MethodName) ({ cls := "ResidueworksModel", name := "isPrime", desc := "(I)Z" } : Jvm.MethodName)) ∈ zTg := zt_10 (i := 165) rfl rfl
theorem zw_10_166 : (Jvm.Cond.code ({ cls := "ResidueworksModel", name := "isPrime", desc := "(I)Z" } : Jvm.MethodName) prog_12_method_73_code (2 : Nat) (Option.some Jvm.ClassFile.FieldType.boolean)) ∈ zTg := zt_10 (i := 166) rfl rfl
theorem zw_10_167 : (Jvm.Cond.constant "ResidueworksModel" (340 : Nat) (1048575 : Int32)) ∈ zTg := zt_10 (i := 167) rfl rfl
theorem zw_10_168 : (Jvm.Cond.methodLink "ResidueworksModel" (341 : Nat) ({ cls := "ResidueworksModel", name := "isPrimeOf", desc := "(I)Z" } : Jvm.MethodName)) ∈ zTg := zt_10 (i := 168) rfl rfl
theorem zw_10_169 : (Jvm.Cond.static ({ cls := "ResidueworksModel", name := "isPrimeOf", desc := "(I)Z" } : Jvm.MethodName)) ∈ zTg := zt_10 (i := 169) rfl rfl
theorem zw_10_170 : (Jvm.Cond.code ({ cls := "ResidueworksModel", name := "isPrimeOf", desc := "(I)Z" } : Jvm.MethodName) prog_12_method_72_code (3 : Nat) (Option.some Jvm.ClassFile.FieldType.boolean)) ∈ zTg := zt_10 (i := 170) rfl rfl
theorem zw_10_171 : (Jvm.Cond.methodLink "ResidueworksLaw" (262 : Nat) ({ cls := "ResidueworksModel", name := "modRoot", desc := "(III)I" } : Jvm.MethodName)) ∈ zTg := zt_10 (i := 171) rfl rfl
theorem zw_10_172 : (Jvm.Cond.instanceMethod ({ cls := "ResidueworksModel", name := "modRoot", desc := "(III)I" } : Jvm.MethodName)) ∈ zTg := zt_10 (i := 172) rfl rfl
theorem zw_10_173 : (Jvm.Cond.selects "ResidueworksModel" ({ cls := "ResidueworksModel", name := "modRoot", desc := "(III)I" } : Jvm.MethodName) ({ cls := "ResidueworksModel", name := "modRoot", desc := "(III)I" } : Jvm.MethodName)) ∈ zTg := zt_10 (i := 173) rfl rfl
theorem zw_10_174 : (Jvm.Cond.code ({ cls := "ResidueworksModel", name := "modRoot", desc := "(III)I" } : Jvm.MethodName) prog_12_method_74_code (7 : Nat) (Option.some Jvm.ClassFile.FieldType.int)) ∈ zTg := zt_10 (i := 174) rfl rfl
theorem zw_10_175 : (Jvm.Cond.methodLink "ResidueworksLaw" (265 : Nat) ({ cls := "ResidueworksModel", name := "condition", desc := "(II)I" } : Jvm.MethodName)) ∈ zTg := zt_10 (i := 175) rfl rfl
theorem zw_10_176 : (Jvm.Cond.instanceMethod ({ cls := "ResidueworksModel", name := "condition", desc := "(II)I" } : Jvm.MethodName)) ∈ zTg := zt_10 (i := 176) rfl rfl
theorem zw_10_177 : (Jvm.Cond.selects "ResidueworksModel" ({ cls := "ResidueworksModel", name := "condition", desc := "(II)I" } : Jvm.MethodName) ({ cls := "ResidueworksModel", name := "condition", desc := "(II)I" } : Jvm.MethodName)) ∈ zTg := zt_10 (i := 177) rfl rfl
theorem zw_10_178 : (Jvm.Cond.code ({ cls := "ResidueworksModel", name := "condition", desc := "(II)I" } : Jvm.MethodName) prog_12_method_75_code (3 : Nat) (Option.some Jvm.ClassFile.FieldType.int)) ∈ zTg := zt_10 (i := 178) rfl rfl
theorem zw_10_179 : (Jvm.Cond.methodLink "ResidueworksLaw" (268 : Nat) ({ cls := "ResidueworksModel", name := "solve", desc := "(II)Z" } : Jvm.MethodName)) ∈ zTg := zt_10 (i := 179) rfl rfl
theorem zw_10_180 : (Jvm.Cond.instanceMethod ({ cls := "ResidueworksModel", name := "solve", desc := "(II)Z" } : Jvm.MethodName)) ∈ zTg := zt_10 (i := 180) rfl rfl
theorem zw_10_181 : (Jvm.Cond.selects "ResidueworksModel" ({ cls := "ResidueworksModel", name := "solve", desc := "(II)Z" } : Jvm.MethodName) ({ cls := "ResidueworksModel", name := "solve", desc := "(II)Z" } : Jvm.MethodName)) ∈ zTg := zt_10 (i := 181) rfl rfl
theorem zw_10_182 : (Jvm.Cond.code ({ cls := "ResidueworksModel", name := "solve", desc := "(II)Z" } : Jvm.MethodName) prog_12_method_77_code (10 : Nat) (Option.some Jvm.ClassFile.FieldType.boolean)) ∈ zTg := zt_10 (i := 182) rfl rfl
theorem zw_10_183 : (Jvm.Cond.methodLink "ResidueworksModel" (344 : Nat) ({ cls := "ResidueworksModel", name := "fit", desc := "()Z" } : Jvm.MethodName)) ∈ zTg := zt_10 (i := 183) rfl rfl
theorem zw_10_185 : (Jvm.Cond.instanceMethod ({ cls := "ResidueworksModel", name := "fit", desc := "()Z" } : Jvm.MethodName)) ∈ zTg := zt_10 (i := 185) rfl rfl
theorem zw_10_186 : (Jvm.Cond.code ({ cls := "ResidueworksModel", name := "fit", desc := "()Z" } : Jvm.MethodName) prog_12_method_76_code (4 : Nat) (Option.some Jvm.ClassFile.FieldType.boolean)) ∈ zTg := zt_10 (i := 186) rfl rfl
theorem zw_10_187 : (Jvm.Cond.methodLink "ResidueworksLaw" (272 : Nat) ({ cls := "ResidueworksModel", name := "forget", desc := "()I" } : Jvm.MethodName)) ∈ zTg := zt_10 (i := 187) rfl rfl
theorem zw_10_188 : (Jvm.Cond.instanceMethod ({ cls := "ResidueworksModel", name := "forget", desc := "()I" } : Jvm.MethodName)) ∈ zTg := zt_10 (i := 188) rfl rfl
theorem zw_10_189 : (Jvm.Cond.selects "ResidueworksModel" ({ cls := "ResidueworksModel", name := "forget", desc := "()I" } : Jvm.MethodName) ({ cls := "ResidueworksModel", name := "forget", desc := "()I" } : Jvm.MethodName)) ∈ zTg := zt_10 (i := 189) rfl rfl
theorem zw_10_190 : (Jvm.Cond.code ({ cls := "ResidueworksModel", name := "forget", desc := "()I" } : Jvm.MethodName) prog_12_method_78_code (2 : Nat) (Option.some Jvm.ClassFile.FieldType.int)) ∈ zTg := zt_10 (i := 190) rfl rfl
theorem zw_10_191 : (Jvm.Cond.methodLink "ResidueworksLaw" (275 : Nat) ({ cls := "ResidueworksModel", name := "root", desc := "(III)I" } : Jvm.MethodName)) ∈ zTg := zt_10 (i := 191) rfl rfl
theorem zw_10_192 : (Jvm.Cond.instanceMethod ({ cls := "ResidueworksModel", name := "root", desc := "(III)I" } : Jvm.MethodName)) ∈ zTg := zt_10 (i := 192) rfl rfl
theorem zw_10_193 : (Jvm.Cond.selects "ResidueworksModel" ({ cls := "ResidueworksModel", name := "root", desc := "(III)I" } : Jvm.MethodName) ({ cls := "ResidueworksModel", name := "root", desc := "(III)I" } : Jvm.MethodName)) ∈ zTg := zt_10 (i := 193) rfl rfl
theorem zw_10_194 : (Jvm.Cond.code ({ cls := "ResidueworksModel", name := "root", desc := "(III)I" } : Jvm.MethodName) prog_12_method_79_code (4 : Nat) (Option.some Jvm.ClassFile.FieldType.int)) ∈ zTg := zt_10 (i := 194) rfl rfl
theorem zw_10_195 : (Jvm.Cond.methodLink "ResidueworksLaw" (278 : Nat) ({ cls := "ResidueworksModel", name := "perfect", desc := "(I)I" } : Jvm.MethodName)) ∈ zTg := zt_10 (i := 195) rfl rfl
theorem zw_10_196 : (Jvm.Cond.instanceMethod ({ cls := "ResidueworksModel", name := "perfect", desc := "(I)I" } : Jvm.MethodName)) ∈ zTg := zt_10 (i := 196) rfl rfl
theorem zw_10_197 : (Jvm.Cond.selects "ResidueworksModel" ({ cls := "ResidueworksModel", name := "perfect", desc := "(I)I" } : Jvm.MethodName) ({ cls := "ResidueworksModel", name := "perfect", desc := "(I)I" } : Jvm.MethodName)) ∈ zTg := zt_10 (i := 197) rfl rfl
theorem zw_10_198 : (Jvm.Cond.code ({ cls := "ResidueworksModel", name := "perfect", desc := "(I)I" } : Jvm.MethodName) prog_12_method_80_code (4 : Nat) (Option.some Jvm.ClassFile.FieldType.int)) ∈ zTg := zt_10 (i := 198) rfl rfl
theorem zw_10_199 : (Jvm.Cond.methodLink "ResidueworksLaw" (282 : Nat) ({ cls := "ResidueworksModel", name := "share", desc := "(I)F" } : Jvm.MethodName)) ∈ zTg := zt_10 (i := 199) rfl rfl
theorem zw_10_200 : (Jvm.Cond.instanceMethod ({ cls := "ResidueworksModel", name := "share", desc := "(I)F" } : Jvm.MethodName)) ∈ zTg := zt_10 (i := 200) rfl rfl
theorem zw_10_201 : (Jvm.Cond.selects "ResidueworksModel" ({ cls := "ResidueworksModel", name := "share", desc := "(I)F" } : Jvm.MethodName) ({ cls := "ResidueworksModel", name := "share", desc := "(I)F" } : Jvm.MethodName)) ∈ zTg := zt_10 (i := 201) rfl rfl
theorem zw_10_202 : (Jvm.Cond.code ({ cls := "ResidueworksModel", name := "share", desc := "(I)F" } : Jvm.MethodName) prog_12_method_81_code (2 : Nat) (Option.some Jvm.ClassFile.FieldType.float)) ∈ zTg := zt_10 (i := 202) rfl rfl
theorem zw_10_203 : (Jvm.Cond.methodLink "ResidueworksLaw" (287 : Nat) ({ cls := "ResidueworksModel", name := "meanLength", desc := "()D" } : Jvm.MethodName)) ∈ zTg := zt_10 (i := 203) rfl rfl
theorem zw_10_204 : (Jvm.Cond.instanceMethod ({ cls := "ResidueworksModel", name := "meanLength", desc := "()D" } : Jvm.MethodName)) ∈ zTg := zt_10 (i := 204) rfl rfl
theorem zw_10_205 : (Jvm.Cond.selects "ResidueworksModel" ({ cls := "ResidueworksModel", name := "meanLength", desc := "()D" } : Jvm.MethodName) ({ cls := "ResidueworksModel", name := "meanLength", desc := "()D" } : Jvm.MethodName)) ∈ zTg := zt_10 (i := 205) rfl rfl
theorem zw_10_206 : (Jvm.Cond.code ({ cls := "ResidueworksModel", name := "meanLength", desc := "()D" } : Jvm.MethodName) prog_12_method_82_code (6 : Nat) (Option.some Jvm.ClassFile.FieldType.double)) ∈ zTg := zt_10 (i := 206) rfl rfl
theorem zw_10_207 : (Jvm.Cond.constantDouble "ResidueworksModel" (347 : Nat) (4620693217682128896 : UInt64)) ∈ zTg := zt_10 (i := 207) rfl rfl
theorem zw_10_208 : (Jvm.Cond.methodLink "ResidueworksLaw" (292 : Nat) ({ cls := "ResidueworksModel", name := "checksum", desc := "()J" } : Jvm.MethodName)) ∈ zTg := zt_10 (i := 208) rfl rfl
theorem zw_10_209 : (Jvm.Cond.instanceMethod ({ cls := "ResidueworksModel", name := "checksum", desc := "()J" } : Jvm.MethodName)) ∈ zTg := zt_10 (i := 209) rfl rfl
theorem zw_10_210 : (Jvm.Cond.selects "ResidueworksModel" ({ cls := "ResidueworksModel", name := "checksum", desc := "()J" } : Jvm.MethodName) ({ cls := "ResidueworksModel", name := "checksum", desc := "()J" } : Jvm.MethodName)) ∈ zTg := zt_10 (i := 210) rfl rfl
theorem zw_10_211 : (Jvm.Cond.code ({ cls := "ResidueworksModel", name := "checksum", desc := "()J" } : Jvm.MethodName) prog_12_method_83_code (8 : Nat) (Option.some Jvm.ClassFile.FieldType.long)) ∈ zTg := zt_10 (i := 211) rfl rfl
theorem zw_10_212 : (Jvm.Cond.constantLong "ResidueworksModel" (349 : Nat) (31 : Int64)) ∈ zTg := zt_10 (i := 212) rfl rfl
theorem zw_10_214 : (Jvm.Cond.methodLink "ResidueworksModel" (351 : Nat) ({ cls := "java/util/List", name := "iterator", desc := "()Ljava/util/Iterator;" } : Jvm.MethodName)) ∈ zTg := zt_10 (i := 214) rfl rfl
theorem zw_10_217 : (Jvm.Cond.selects "java/util/ArrayList" ({ cls := "java/util/List", name := "iterator", desc := "()Ljava/util/Iterator;" } : Jvm.MethodName) ({ cls := "java/util/ArrayList", name := "iterator", desc := "()Ljava/util/Iterator;" } : Jvm.MethodName)) ∈ zTg := zt_10 (i := 217) rfl rfl
theorem zw_10_219 : (Jvm.Cond.instanceMethod ({ cls := "java/util/ArrayList", name := "iterator", desc := "()Ljava/util/Iterator;" } : Jvm.MethodName)) ∈ zTg := zt_10 (i := 219) rfl rfl
theorem zw_10_221 : (Jvm.Cond.code ({ cls := "java/util/ArrayList", name := "iterator", desc := "()Ljava/util/Iterator;" } : Jvm.MethodName) prog_44_method_55_code (1 : Nat) (Option.some (Jvm.ClassFile.FieldType.object "java/util/Iterator"))) ∈ zTg := zt_10 (i := 221) rfl rfl
theorem zw_10_222 : (Jvm.Cond.classLink "java/util/ArrayList" (267 : Nat) "java/util/ArrayList$Itr") ∈ zTg := zt_10 (i := 222) rfl rfl
theorem zw_10_223 : (Jvm.Cond.instantiable "java/util/ArrayList$Itr" (4 : Nat)) ∈ zTg := zt_10 (i := 223) rfl rfl
theorem zw_10_224 : (Jvm.Cond.methodLink "java/util/ArrayList" (269 : Nat) ({ cls := "java/util/ArrayList$Itr", name := "<init>", desc := "(Ljava/util/ArrayList;)V" } : Jvm.MethodName)) ∈ zTg := zt_10 (i := 224) rfl rfl
theorem zw_10_225 : (Jvm.Cond.instanceMethod ({ cls := "java/util/ArrayList$Itr", name := "<init>", desc := "(Ljava/util/ArrayList;)V" } : Jvm.MethodName)) ∈ zTg := zt_10 (i := 225) rfl rfl
theorem zw_10_226 : (Jvm.Cond.code ({ cls := "java/util/ArrayList$Itr", name := "<init>", desc := "(Ljava/util/ArrayList;)V" } : Jvm.MethodName) prog_45_method_1_code (2 : Nat) (Option.none : Option Jvm.ClassFile.FieldType)) ∈ zTg := zt_10 (i := 226) rfl rfl
theorem zw_10_227 : (Jvm.Cond.methodLink "java/util/ArrayList$Itr" (7 : Nat) ({ cls := "java/lang/Object", name := "<init>", desc := "()V" } : Jvm.MethodName)) ∈ zTg := zt_10 (i := 227) rfl rfl
theorem zw_10_228 : (Jvm.Cond.fieldLink "java/util/ArrayList$Itr" (25 : Nat) "java/util/ArrayList$Itr" "cursor" "I") ∈ zTg := zt_10 (i := 228) rfl rfl
theorem zw_10_229 : (Jvm.Cond.fieldLink "java/util/ArrayList$Itr" (13 : Nat) "java/util/ArrayList$Itr" "lastRet" "I") ∈ zTg := zt_10 (i := 229) rfl rfl
theorem zw_10_230 : (Jvm.Cond.fieldLink "java/util/ArrayList$Itr" (22 : Nat) "java/util/ArrayList$Itr" "expectedModCount" "I") ∈ zTg := zt_10 (i := 230) rfl rfl
theorem zw_10_231 : (Jvm.Cond.fieldLink "java/util/ArrayList$Itr" (1 : Nat) "java/util/ArrayList$Itr" "this$0" "Ljava/util/ArrayList;") ∈ zTg := zt_10 (i := 231) rfl rfl
theorem zw_10_232 : (Jvm.Cond.lays "java/util/ArrayList$Itr" "java/util/ArrayList$Itr" "cursor" "I") ∈ zTg := zt_10 (i := 232) rfl rfl
theorem zw_10_234 : (Jvm.Cond.lays "java/util/ArrayList$Itr" "java/util/ArrayList$Itr" "lastRet" "I") ∈ zTg := zt_10 (i := 234) rfl rfl
theorem zw_10_236 : (Jvm.Cond.lays "java/util/ArrayList$Itr" "java/util/ArrayList$Itr" "expectedModCount" "I") ∈ zTg := zt_10 (i := 236) rfl rfl
theorem zw_10_238 : (Jvm.Cond.laysFinal "java/util/ArrayList$Itr" "java/util/ArrayList$Itr" "this$0" "Ljava/util/ArrayList;") ∈ zTg := zt_10 (i := 238) rfl rfl
theorem zw_11_2 : (Jvm.Cond.methodLink "ResidueworksModel" (355 : Nat) ({ cls := "java/util/Iterator", name := "hasNext", desc := "()Z" } : Jvm.MethodName)) ∈ zTg := zt_11 (i := 2) rfl rfl
theorem zw_11_6 : (Jvm.Cond.selects "java/util/ArrayList$Itr" ({ cls := "java/util/Iterator", name := "hasNext", desc := "()Z" } : Jvm.MethodName) ({ cls := "java/util/ArrayList$Itr", name := "hasNext", desc := "()Z" } : Jvm.MethodName)) ∈ zTg := zt_11 (i := 6) rfl rfl
theorem zw_11_8 : (Jvm.Cond.instanceMethod ({ cls := "java/util/ArrayList$Itr", name := "hasNext", desc := "()Z" } : Jvm.MethodName)) ∈ zTg := zt_11 (i := 8) rfl rfl
theorem zw_11_10 : (Jvm.Cond.code ({ cls := "java/util/ArrayList$Itr", name := "hasNext", desc := "()Z" } : Jvm.MethodName) prog_45_method_2_code (1 : Nat) (Option.some Jvm.ClassFile.FieldType.boolean)) ∈ zTg := zt_11 (i := 10) rfl rfl
theorem zw_11_35 : (Jvm.Cond.methodLink "ResidueworksLaw" (295 : Nat) ({ cls := "ResidueworksModel", name := "isTrue", desc := "(III)Z" } : Jvm.MethodName)) ∈ zTg := zt_11 (i := 35) rfl rfl
theorem zw_11_36 : (Jvm.Cond.instanceMethod ({ cls := "ResidueworksModel", name := "isTrue", desc := "(III)Z" } : Jvm.MethodName)) ∈ zTg := zt_11 (i := 36) rfl rfl
theorem zw_11_37 : (Jvm.Cond.selects "ResidueworksModel" ({ cls := "ResidueworksModel", name := "isTrue", desc := "(III)Z" } : Jvm.MethodName) ({ cls := "ResidueworksModel", name := "isTrue", desc := "(III)Z" } : Jvm.MethodName)) ∈ zTg := zt_11 (i := 37) rfl rfl
theorem zw_11_38 : (Jvm.Cond.code ({ cls := "ResidueworksModel", name := "isTrue", desc := "(III)Z" } : Jvm.MethodName) prog_12_method_84_code (4 : Nat) (Option.some Jvm.ClassFile.FieldType.boolean)) ∈ zTg := zt_11 (i := 38) rfl rfl
theorem zw_11_39 : (Jvm.Cond.constantLong "ResidueworksLaw" (147 : Nat) (4294967295 : Int64)) ∈ zTg := zt_11 (i := 39) rfl rfl
theorem zw_11_40 : (Jvm.Cond.arrayClass Jvm.ClassFile.FieldType.long) ∈ zTg := zt_11 (i := 40) rfl rfl
theorem zw_11_41 : (Jvm.Cond.arrayClass Jvm.ClassFile.FieldType.double) ∈ zTg := zt_11 (i := 41) rfl rfl
theorem zw_11_43 : (Jvm.Cond.sameMethod "java/lang/AbstractStringBuilder" "java/lang/AbstractStringBuilder" "length" "()I") ∈ zTg := zt_11 (i := 43) rfl rfl
theorem zw_11_44 : (Jvm.Cond.sameMethod "java/lang/AbstractStringBuilder" "java/lang/AbstractStringBuilder" "append" "(C)Ljava/lang/AbstractStringBuilder;") ∈ zTg := zt_11 (i := 44) rfl rfl
theorem zw_11_48 : (Jvm.Cond.sameMethod "java/lang/AbstractStringBuilder" "java/lang/AbstractStringBuilder" "setLength" "(I)V") ∈ zTg := zt_11 (i := 48) rfl rfl
theorem zw_11_55 : (Jvm.Cond.sameMethod "java/lang/AbstractStringBuilder" "java/lang/AbstractStringBuilder" "charAt" "(I)C") ∈ zTg := zt_11 (i := 55) rfl rfl
theorem zw_11_60 : (Jvm.Cond.castable "java/lang/Integer" "java/lang/Object") ∈ zTn := zn_11 (i := 60) rfl rfl
theorem zws_12 : Cond.selects "Residueworks" ⟨"Residueworks", "reckonOfOne", "(CLResidueworks$Whole;)Z"⟩ ⟨"Residueworks", "reckonOfOne", "(CLResidueworks$Whole;)Z"⟩ ∈ zTg := zsel (i := 12) (q := (⟨"Residueworks", "reckonOfOne", "(CLResidueworks$Whole;)Z"⟩, 10)) (by decide +kernel)
theorem zws_13 : Cond.selects "Residueworks$Text" ⟨"Residueworks$Text", "turnRound", "()V"⟩ ⟨"Residueworks$Text", "turnRound", "()V"⟩ ∈ zTg := zsel (i := 13) (q := (⟨"Residueworks$Text", "turnRound", "()V"⟩, 3)) (by decide +kernel)
theorem zws_15 : Cond.selects "Residueworks" ⟨"Residueworks", "smallModulus", "(I)I"⟩ ⟨"Residueworks", "smallModulus", "(I)I"⟩ ∈ zTg := zsel (i := 15) (q := (⟨"Residueworks", "smallModulus", "(I)I"⟩, 10)) (by decide +kernel)
theorem zws_17 : Cond.selects "Residueworks$Theorem" ⟨"Residueworks$Theorem", "bitsOfOneHold", "(LResidueworks$Whole;I)Z"⟩ ⟨"Residueworks$Theorem", "bitsOfOneHold", "(LResidueworks$Whole;I)Z"⟩ ∈ zTg := zsel (i := 17) (q := (⟨"Residueworks$Theorem", "bitsOfOneHold", "(LResidueworks$Whole;I)Z"⟩, 15)) (by decide +kernel)
theorem zws_18 : Cond.selects "Residueworks$Theorem" ⟨"Residueworks$Theorem", "shiftsHold", "(LResidueworks$Whole;I)Z"⟩ ⟨"Residueworks$Theorem", "shiftsHold", "(LResidueworks$Whole;I)Z"⟩ ∈ zTg := zsel (i := 18) (q := (⟨"Residueworks$Theorem", "shiftsHold", "(LResidueworks$Whole;I)Z"⟩, 15)) (by decide +kernel)
theorem zws_19 : Cond.selects "Residueworks$Theorem" ⟨"Residueworks$Theorem", "lengthHolds", "(LResidueworks$Whole;)Z"⟩ ⟨"Residueworks$Theorem", "lengthHolds", "(LResidueworks$Whole;)Z"⟩ ∈ zTg := zsel (i := 19) (q := (⟨"Residueworks$Theorem", "lengthHolds", "(LResidueworks$Whole;)Z"⟩, 15)) (by decide +kernel)
theorem zws_20 : Cond.selects "Residueworks$Theorem" ⟨"Residueworks$Theorem", "isWithin", "(LResidueworks$Whole;I)Z"⟩ ⟨"Residueworks$Theorem", "isWithin", "(LResidueworks$Whole;I)Z"⟩ ∈ zTg := zsel (i := 20) (q := (⟨"Residueworks$Theorem", "isWithin", "(LResidueworks$Whole;I)Z"⟩, 15)) (by decide +kernel)
theorem zws_21 : Cond.selects "Residueworks$Theorem" ⟨"Residueworks$Theorem", "bitsOfTwoHold", "(LResidueworks$Whole;LResidueworks$Whole;)Z"⟩ ⟨"Residueworks$Theorem", "bitsOfTwoHold", "(LResidueworks$Whole;LResidueworks$Whole;)Z"⟩ ∈ zTg := zsel (i := 21) (q := (⟨"Residueworks$Theorem", "bitsOfTwoHold", "(LResidueworks$Whole;LResidueworks$Whole;)Z"⟩, 15)) (by decide +kernel)
theorem zws_22 : Cond.selects "Residueworks$Theorem" ⟨"Residueworks$Theorem", "divisionHolds", "(LResidueworks$Whole;LResidueworks$Whole;)Z"⟩ ⟨"Residueworks$Theorem", "divisionHolds", "(LResidueworks$Whole;LResidueworks$Whole;)Z"⟩ ∈ zTg := zsel (i := 22) (q := (⟨"Residueworks$Theorem", "divisionHolds", "(LResidueworks$Whole;LResidueworks$Whole;)Z"⟩, 15)) (by decide +kernel)
theorem zws_23 : Cond.selects "Residueworks$Theorem" ⟨"Residueworks$Theorem", "textHolds", "(LResidueworks$Whole;I)Z"⟩ ⟨"Residueworks$Theorem", "textHolds", "(LResidueworks$Whole;I)Z"⟩ ∈ zTg := zsel (i := 23) (q := (⟨"Residueworks$Theorem", "textHolds", "(LResidueworks$Whole;I)Z"⟩, 15)) (by decide +kernel)
theorem zws_24 : Cond.selects "Residueworks$Theorem" ⟨"Residueworks$Theorem", "rootHolds", "(LResidueworks$Whole;I)Z"⟩ ⟨"Residueworks$Theorem", "rootHolds", "(LResidueworks$Whole;I)Z"⟩ ∈ zTg := zsel (i := 24) (q := (⟨"Residueworks$Theorem", "rootHolds", "(LResidueworks$Whole;I)Z"⟩, 15)) (by decide +kernel)
theorem zws_25 : Cond.selects "Residueworks$Theorem" ⟨"Residueworks$Theorem", "makeOddAmount", "(LResidueworks$Whole;LResidueworks$Whole;)V"⟩ ⟨"Residueworks$Theorem", "makeOddAmount", "(LResidueworks$Whole;LResidueworks$Whole;)V"⟩ ∈ zTg := zsel (i := 25) (q := (⟨"Residueworks$Theorem", "makeOddAmount", "(LResidueworks$Whole;LResidueworks$Whole;)V"⟩, 15)) (by decide +kernel)
theorem zws_26 : Cond.selects "Residueworks$Theorem" ⟨"Residueworks$Theorem", "squareHolds", "(LResidueworks$Whole;LResidueworks$Whole;I)Z"⟩ ⟨"Residueworks$Theorem", "squareHolds", "(LResidueworks$Whole;LResidueworks$Whole;I)Z"⟩ ∈ zTg := zsel (i := 26) (q := (⟨"Residueworks$Theorem", "squareHolds", "(LResidueworks$Whole;LResidueworks$Whole;I)Z"⟩, 15)) (by decide +kernel)
theorem zws_33 : Cond.selects "ResidueworksModel" ⟨"ResidueworksModel", "fails", "(ZI)Z"⟩ ⟨"ResidueworksModel", "fails", "(ZI)Z"⟩ ∈ zTg := zsel (i := 33) (q := (⟨"ResidueworksModel", "fails", "(ZI)Z"⟩, 6)) (by decide +kernel)
theorem zws_34 : Cond.selects "ResidueworksModel" ⟨"ResidueworksModel", "lays", "(ILResidueworksModel$Whole;)I"⟩ ⟨"ResidueworksModel", "lays", "(ILResidueworksModel$Whole;)I"⟩ ∈ zTg := zsel (i := 34) (q := (⟨"ResidueworksModel", "lays", "(ILResidueworksModel$Whole;)I"⟩, 6)) (by decide +kernel)
theorem zws_35 : Cond.selects "ResidueworksModel$Whole" ⟨"ResidueworksModel$Whole", "length", "()I"⟩ ⟨"ResidueworksModel$Whole", "length", "()I"⟩ ∈ zTg := zsel (i := 35) (q := (⟨"ResidueworksModel$Whole", "length", "()I"⟩, 2)) (by decide +kernel)
theorem zws_36 : Cond.selects "ResidueworksModel$Whole" ⟨"ResidueworksModel$Whole", "unlike", "()[I"⟩ ⟨"ResidueworksModel$Whole", "unlike", "()[I"⟩ ∈ zTg := zsel (i := 36) (q := (⟨"ResidueworksModel$Whole", "unlike", "()[I"⟩, 2)) (by decide +kernel)
theorem zws_37 : Cond.selects "ResidueworksModel$Whole" ⟨"ResidueworksModel$Whole", "shifted", "(I)LResidueworksModel$Whole;"⟩ ⟨"ResidueworksModel$Whole", "shifted", "(I)LResidueworksModel$Whole;"⟩ ∈ zTg := zsel (i := 37) (q := (⟨"ResidueworksModel$Whole", "shifted", "(I)LResidueworksModel$Whole;"⟩, 2)) (by decide +kernel)
theorem zws_38 : Cond.selects "ResidueworksModel$Whole" ⟨"ResidueworksModel$Whole", "isBelow", "()Z"⟩ ⟨"ResidueworksModel$Whole", "isBelow", "()Z"⟩ ∈ zTg := zsel (i := 38) (q := (⟨"ResidueworksModel$Whole", "isBelow", "()Z"⟩, 2)) (by decide +kernel)
theorem zws_39 : Cond.selects "ResidueworksModel$Whole" ⟨"ResidueworksModel$Whole", "inverted", "()LResidueworksModel$Whole;"⟩ ⟨"ResidueworksModel$Whole", "inverted", "()LResidueworksModel$Whole;"⟩ ∈ zTg := zsel (i := 39) (q := (⟨"ResidueworksModel$Whole", "inverted", "()LResidueworksModel$Whole;"⟩, 2)) (by decide +kernel)
theorem zws_40 : Cond.selects "ResidueworksModel$Whole" ⟨"ResidueworksModel$Whole", "turned", "()LResidueworksModel$Whole;"⟩ ⟨"ResidueworksModel$Whole", "turned", "()LResidueworksModel$Whole;"⟩ ∈ zTg := zsel (i := 40) (q := (⟨"ResidueworksModel$Whole", "turned", "()LResidueworksModel$Whole;"⟩, 2)) (by decide +kernel)
theorem zws_41 : Cond.selects "ResidueworksModel$Whole" ⟨"ResidueworksModel$Whole", "add", "(LResidueworksModel$Whole;)LResidueworksModel$Whole;"⟩ ⟨"ResidueworksModel$Whole", "add", "(LResidueworksModel$Whole;)LResidueworksModel$Whole;"⟩ ∈ zTg := zsel (i := 41) (q := (⟨"ResidueworksModel$Whole", "add", "(LResidueworksModel$Whole;)LResidueworksModel$Whole;"⟩, 2)) (by decide +kernel)
theorem zws_42 : Cond.selects "ResidueworksModel$Whole" ⟨"ResidueworksModel$Whole", "bit", "(I)Z"⟩ ⟨"ResidueworksModel$Whole", "bit", "(I)Z"⟩ ∈ zTg := zsel (i := 42) (q := (⟨"ResidueworksModel$Whole", "bit", "(I)Z"⟩, 2)) (by decide +kernel)
theorem zws_43 : Cond.selects "ResidueworksModel$Whole" ⟨"ResidueworksModel$Whole", "compare", "(LResidueworksModel$Whole;)I"⟩ ⟨"ResidueworksModel$Whole", "compare", "(LResidueworksModel$Whole;)I"⟩ ∈ zTg := zsel (i := 43) (q := (⟨"ResidueworksModel$Whole", "compare", "(LResidueworksModel$Whole;)I"⟩, 2)) (by decide +kernel)
theorem zws_44 : Cond.selects "ResidueworksModel$Whole" ⟨"ResidueworksModel$Whole", "take", "(LResidueworksModel$Whole;)LResidueworksModel$Whole;"⟩ ⟨"ResidueworksModel$Whole", "take", "(LResidueworksModel$Whole;)LResidueworksModel$Whole;"⟩ ∈ zTg := zsel (i := 44) (q := (⟨"ResidueworksModel$Whole", "take", "(LResidueworksModel$Whole;)LResidueworksModel$Whole;"⟩, 2)) (by decide +kernel)
theorem zws_45 : Cond.selects "ResidueworksModel$Whole" ⟨"ResidueworksModel$Whole", "multiply", "(LResidueworksModel$Whole;)LResidueworksModel$Whole;"⟩ ⟨"ResidueworksModel$Whole", "multiply", "(LResidueworksModel$Whole;)LResidueworksModel$Whole;"⟩ ∈ zTg := zsel (i := 45) (q := (⟨"ResidueworksModel$Whole", "multiply", "(LResidueworksModel$Whole;)LResidueworksModel$Whole;"⟩, 2)) (by decide +kernel)
theorem zws_48 : Cond.selects "ResidueworksModel$Whole" ⟨"ResidueworksModel$Whole", "amount", "()LResidueworksModel$Whole;"⟩ ⟨"ResidueworksModel$Whole", "amount", "()LResidueworksModel$Whole;"⟩ ∈ zTg := zsel (i := 48) (q := (⟨"ResidueworksModel$Whole", "amount", "()LResidueworksModel$Whole;"⟩, 2)) (by decide +kernel)
theorem zws_49 : Cond.selects "java/util/ArrayList" ⟨"java/util/ArrayList", "add", "(Ljava/lang/Object;[Ljava/lang/Object;I)V"⟩ ⟨"java/util/ArrayList", "add", "(Ljava/lang/Object;[Ljava/lang/Object;I)V"⟩ ∈ zTg := zsel (i := 49) (q := (⟨"java/util/ArrayList", "add", "(Ljava/lang/Object;[Ljava/lang/Object;I)V"⟩, 3)) (by decide +kernel)
theorem zws_50 : Cond.selects "java/util/ArrayList" ⟨"java/util/ArrayList", "grow", "()[Ljava/lang/Object;"⟩ ⟨"java/util/ArrayList", "grow", "()[Ljava/lang/Object;"⟩ ∈ zTg := zsel (i := 50) (q := (⟨"java/util/ArrayList", "grow", "()[Ljava/lang/Object;"⟩, 3)) (by decide +kernel)
theorem zws_51 : Cond.selects "java/util/ArrayList" ⟨"java/util/ArrayList", "grow", "(I)[Ljava/lang/Object;"⟩ ⟨"java/util/ArrayList", "grow", "(I)[Ljava/lang/Object;"⟩ ∈ zTg := zsel (i := 51) (q := (⟨"java/util/ArrayList", "grow", "(I)[Ljava/lang/Object;"⟩, 3)) (by decide +kernel)
theorem zws_52 : Cond.selects "ResidueworksModel" ⟨"ResidueworksModel", "small", "(II)I"⟩ ⟨"ResidueworksModel", "small", "(II)I"⟩ ∈ zTg := zsel (i := 52) (q := (⟨"ResidueworksModel", "small", "(II)I"⟩, 6)) (by decide +kernel)
theorem zws_54 : Cond.selects "ResidueworksModel" ⟨"ResidueworksModel", "fit", "()Z"⟩ ⟨"ResidueworksModel", "fit", "()Z"⟩ ∈ zTg := zsel (i := 54) (q := (⟨"ResidueworksModel", "fit", "()Z"⟩, 6)) (by decide +kernel)
theorem zw_oi : Cond.code Lib.objectInit ⟨#[0xb1]⟩ 1 none ∈ zTg := zw_1_49
theorem zc_1 : zCode zmd_1 ∈ zTg := zw_1_46
theorem zp_1 : plainFor zmd_1.1 = true := by decide +kernel
theorem zd_1 : zdsc zmd_1.1 0 := ⟨by decide, by decide, by decide +kernel⟩
theorem zc_2 : zCode zmd_2 ∈ zTg := zw_1_56
theorem zp_2 : plainFor zmd_2.1 = true := by decide +kernel
theorem zd_2 : zdsc zmd_2.1 0 := ⟨by decide, by decide, by decide +kernel⟩
theorem zc_3 : zCode zmd_3 ∈ zTg := zw_1_62
theorem zp_3 : plainFor zmd_3.1 = true := by decide +kernel
theorem zd_3 : zdsc zmd_3.1 0 := ⟨by decide, by decide, by decide +kernel⟩
theorem zc_4 : zCode zmd_4 ∈ zTg := zw_1_99
theorem zp_4 : plainFor zmd_4.1 = true := by decide +kernel
theorem zd_4 : zdsc zmd_4.1 0 := ⟨by decide, by decide, by decide +kernel⟩
theorem zc_5 : zCode zmd_5 ∈ zTg := zw_1_119
theorem zp_5 : plainFor zmd_5.1 = true := by decide +kernel
theorem zd_5 : zdsc zmd_5.1 0 := ⟨by decide, by decide, by decide +kernel⟩
theorem zc_6 : zCode zmd_6 ∈ zTg := zw_1_145
theorem zp_6 : plainFor zmd_6.1 = true := by decide +kernel
theorem zd_6 : zdsc zmd_6.1 0 := ⟨by decide, by decide, by decide +kernel⟩
theorem zc_7 : zCode zmd_7 ∈ zTg := zw_1_198
theorem zp_7 : plainFor zmd_7.1 = true := by decide +kernel
theorem zd_7 : zdsc zmd_7.1 0 := ⟨by decide, by decide, by decide +kernel⟩
theorem zc_8 : zCode zmd_8 ∈ zTg := zw_1_229
theorem zp_8 : plainFor zmd_8.1 = true := by decide +kernel
theorem zd_8 : zdsc zmd_8.1 0 := ⟨by decide, by decide, by decide +kernel⟩
theorem zc_9 : zCode zmd_9 ∈ zTg := zw_2_44
theorem zp_9 : plainFor zmd_9.1 = true := by decide +kernel
theorem zd_9 : zdsc zmd_9.1 0 := ⟨by decide, by decide, by decide +kernel⟩
theorem zc_10 : zCode zmd_10 ∈ zTg := zw_2_63
theorem zp_10 : plainFor zmd_10.1 = true := by decide +kernel
theorem zd_10 : zdsc zmd_10.1 1 := ⟨by decide, by decide, by decide +kernel⟩
theorem zc_11 : zCode zmd_11 ∈ zTg := zw_2_67
theorem zp_11 : plainFor zmd_11.1 = true := by decide +kernel
theorem zd_11 : zdsc zmd_11.1 1 := ⟨by decide, by decide, by decide +kernel⟩
theorem zc_12 : zCode zmd_12 ∈ zTg := zw_2_72
theorem zp_12 : plainFor zmd_12.1 = true := by decide +kernel
theorem zd_12 : zdsc zmd_12.1 2 := ⟨by decide, by decide, by decide +kernel⟩
theorem zc_13 : zCode zmd_13 ∈ zTg := zw_2_76
theorem zp_13 : plainFor zmd_13.1 = true := by decide +kernel
theorem zd_13 : zdsc zmd_13.1 2 := ⟨by decide, by decide, by decide +kernel⟩
theorem zc_14 : zCode zmd_14 ∈ zTg := zw_6_197
theorem zp_14 : plainFor zmd_14.1 = true := by decide +kernel
theorem zd_14 : zdsc zmd_14.1 0 := ⟨by decide, by decide, by decide +kernel⟩
theorem zc_15 : zCode zmd_15 ∈ zTg := zw_6_205
theorem zp_15 : plainFor zmd_15.1 = true := by decide +kernel
theorem zd_15 : zdsc zmd_15.1 0 := ⟨by decide, by decide, by decide +kernel⟩
theorem zc_16 : zCode zmd_16 ∈ zTg := zw_6_208
theorem zp_16 : plainFor zmd_16.1 = true := by decide +kernel
theorem zd_16 : zdsc zmd_16.1 1 := ⟨by decide, by decide, by decide +kernel⟩
theorem zc_17 : zCode zmd_17 ∈ zTg := zw_6_237
theorem zp_17 : plainFor zmd_17.1 = true := by decide +kernel
theorem zd_17 : zdsc zmd_17.1 0 := ⟨by decide, by decide, by decide +kernel⟩
theorem zc_18 : zCode zmd_18 ∈ zTg := zw_7_0
theorem zp_18 : plainFor zmd_18.1 = true := by decide +kernel
theorem zd_18 : zdsc zmd_18.1 0 := ⟨by decide, by decide, by decide +kernel⟩
theorem zc_19 : zCode zmd_19 ∈ zTg := zw_7_3
theorem zp_19 : plainFor zmd_19.1 = true := by decide +kernel
theorem zd_19 : zdsc zmd_19.1 0 := ⟨by decide, by decide, by decide +kernel⟩
theorem zc_20 : zCode zmd_20 ∈ zTg := zw_7_24
theorem zp_20 : plainFor zmd_20.1 = true := by decide +kernel
theorem zd_20 : zdsc zmd_20.1 1 := ⟨by decide, by decide, by decide +kernel⟩
theorem zc_21 : zCode zmd_21 ∈ zTg := zw_7_27
theorem zp_21 : plainFor zmd_21.1 = true := by decide +kernel
theorem zd_21 : zdsc zmd_21.1 1 := ⟨by decide, by decide, by decide +kernel⟩
theorem zc_22 : zCode zmd_22 ∈ zTg := zw_7_32
theorem zp_22 : plainFor zmd_22.1 = true := by decide +kernel
theorem zd_22 : zdsc zmd_22.1 1 := ⟨by decide, by decide, by decide +kernel⟩
theorem zc_23 : zCode zmd_23 ∈ zTg := zw_7_36
theorem zp_23 : plainFor zmd_23.1 = true := by decide +kernel
theorem zd_23 : zdsc zmd_23.1 2 := ⟨by decide, by decide, by decide +kernel⟩
theorem zc_24 : zCode zmd_24 ∈ zTg := zw_2_225
theorem zp_24 : plainFor zmd_24.1 = true := by decide +kernel
theorem zd_24 : zdsc zmd_24.1 4 := ⟨by decide, by decide, by decide +kernel⟩
theorem zc_25 : zCode zmd_25 ∈ zTg := zw_3_68
theorem zp_25 : plainFor zmd_25.1 = true := by decide +kernel
theorem zd_25 : zdsc zmd_25.1 2 := ⟨by decide, by decide, by decide +kernel⟩
theorem zc_26 : zCode zmd_26 ∈ zTg := zw_3_72
theorem zp_26 : plainFor zmd_26.1 = true := by decide +kernel
theorem zd_26 : zdsc zmd_26.1 1 := ⟨by decide, by decide, by decide +kernel⟩
theorem zc_27 : zCode zmd_27 ∈ zTg := zw_2_175
theorem zp_27 : plainFor zmd_27.1 = true := by decide +kernel
theorem zd_27 : zdsc zmd_27.1 0 := ⟨by decide, by decide, by decide +kernel⟩
theorem zc_28 : zCode zmd_28 ∈ zTg := zw_2_179
theorem zp_28 : plainFor zmd_28.1 = true := by decide +kernel
theorem zd_28 : zdsc zmd_28.1 0 := ⟨by decide, by decide, by decide +kernel⟩
theorem zc_29 : zCode zmd_29 ∈ zTg := zw_2_183
theorem zp_29 : plainFor zmd_29.1 = true := by decide +kernel
theorem zd_29 : zdsc zmd_29.1 1 := ⟨by decide, by decide, by decide +kernel⟩
theorem zc_30 : zCode zmd_30 ∈ zTg := zw_2_186
theorem zp_30 : plainFor zmd_30.1 = true := by decide +kernel
theorem zd_30 : zdsc zmd_30.1 1 := ⟨by decide, by decide, by decide +kernel⟩
theorem zc_31 : zCode zmd_31 ∈ zTg := zw_7_73
theorem zp_31 : plainFor zmd_31.1 = true := by decide +kernel
theorem zd_31 : zdsc zmd_31.1 2 := ⟨by decide, by decide, by decide +kernel⟩
theorem zc_32 : zCode zmd_32 ∈ zTg := zw_7_76
theorem zp_32 : plainFor zmd_32.1 = true := by decide +kernel
theorem zd_32 : zdsc zmd_32.1 1 := ⟨by decide, by decide, by decide +kernel⟩
theorem zc_33 : zCode zmd_33 ∈ zTg := zw_7_80
theorem zp_33 : plainFor zmd_33.1 = true := by decide +kernel
theorem zd_33 : zdsc zmd_33.1 3 := ⟨by decide, by decide, by decide +kernel⟩
theorem zc_34 : zCode zmd_34 ∈ zTg := zw_7_84
theorem zp_34 : plainFor zmd_34.1 = true := by decide +kernel
theorem zd_34 : zdsc zmd_34.1 2 := ⟨by decide, by decide, by decide +kernel⟩
theorem zc_35 : zCode zmd_35 ∈ zTg := zw_7_88
theorem zp_35 : plainFor zmd_35.1 = true := by decide +kernel
theorem zd_35 : zdsc zmd_35.1 2 := ⟨by decide, by decide, by decide +kernel⟩
theorem zc_36 : zCode zmd_36 ∈ zTg := zw_7_92
theorem zp_36 : plainFor zmd_36.1 = true := by decide +kernel
theorem zd_36 : zdsc zmd_36.1 0 := ⟨by decide, by decide, by decide +kernel⟩
theorem zc_37 : zCode zmd_37 ∈ zTg := zw_7_96
theorem zp_37 : plainFor zmd_37.1 = true := by decide +kernel
theorem zd_37 : zdsc zmd_37.1 0 := ⟨by decide, by decide, by decide +kernel⟩
theorem zc_38 : zCode zmd_38 ∈ zTg := zw_7_103
theorem zp_38 : plainFor zmd_38.1 = true := by decide +kernel
theorem zd_38 : zdsc zmd_38.1 1 := ⟨by decide, by decide, by decide +kernel⟩
theorem zc_39 : zCode zmd_39 ∈ zTg := zw_7_69
theorem zp_39 : plainFor zmd_39.1 = true := by decide +kernel
theorem zd_39 : zdsc zmd_39.1 0 := ⟨by decide, by decide, by decide +kernel⟩
theorem zc_40 : zCode zmd_40 ∈ zTg := zw_2_191
theorem zp_40 : plainFor zmd_40.1 = true := by decide +kernel
theorem zd_40 : zdsc zmd_40.1 0 := ⟨by decide, by decide, by decide +kernel⟩
theorem zc_41 : zCode zmd_41 ∈ zTg := zw_2_194
theorem zp_41 : plainFor zmd_41.1 = true := by decide +kernel
theorem zd_41 : zdsc zmd_41.1 1 := ⟨by decide, by decide, by decide +kernel⟩
theorem zc_42 : zCode zmd_42 ∈ zTg := zw_7_99
theorem zp_42 : plainFor zmd_42.1 = true := by decide +kernel
theorem zd_42 : zdsc zmd_42.1 2 := ⟨by decide, by decide, by decide +kernel⟩
theorem zc_43 : zCode zmd_43 ∈ zTg := zw_3_89
theorem zp_43 : plainFor zmd_43.1 = true := by decide +kernel
theorem zd_43 : zdsc zmd_43.1 4 := ⟨by decide, by decide, by decide +kernel⟩
theorem zc_44 : zCode zmd_44 ∈ zTg := zw_3_94
theorem zp_44 : plainFor zmd_44.1 = true := by decide +kernel
theorem zd_44 : zdsc zmd_44.1 2 := ⟨by decide, by decide, by decide +kernel⟩
theorem zc_45 : zCode zmd_45 ∈ zTg := zw_3_99
theorem zp_45 : plainFor zmd_45.1 = true := by decide +kernel
theorem zd_45 : zdsc zmd_45.1 2 := ⟨by decide, by decide, by decide +kernel⟩
theorem zc_46 : zCode zmd_46 ∈ zTg := zw_3_103
theorem zp_46 : plainFor zmd_46.1 = true := by decide +kernel
theorem zd_46 : zdsc zmd_46.1 2 := ⟨by decide, by decide, by decide +kernel⟩
theorem zc_47 : zCode zmd_47 ∈ zTg := zw_3_107
theorem zp_47 : plainFor zmd_47.1 = true := by decide +kernel
theorem zd_47 : zdsc zmd_47.1 3 := ⟨by decide, by decide, by decide +kernel⟩
theorem zc_48 : zCode zmd_48 ∈ zTg := zw_3_115
theorem zp_48 : plainFor zmd_48.1 = true := by decide +kernel
theorem zd_48 : zdsc zmd_48.1 1 := ⟨by decide, by decide, by decide +kernel⟩
theorem zc_49 : zCode zmd_49 ∈ zTg := zw_3_135
theorem zp_49 : plainFor zmd_49.1 = true := by decide +kernel
theorem zd_49 : zdsc zmd_49.1 1 := ⟨by decide, by decide, by decide +kernel⟩
theorem zc_50 : zCode zmd_50 ∈ zTg := zw_7_108
theorem zp_50 : plainFor zmd_50.1 = true := by decide +kernel
theorem zd_50 : zdsc zmd_50.1 2 := ⟨by decide, by decide, by decide +kernel⟩
theorem zc_51 : zCode zmd_51 ∈ zTg := zw_7_112
theorem zp_51 : plainFor zmd_51.1 = true := by decide +kernel
theorem zd_51 : zdsc zmd_51.1 1 := ⟨by decide, by decide, by decide +kernel⟩
theorem zc_52 : zCode zmd_52 ∈ zTg := zw_7_116
theorem zp_52 : plainFor zmd_52.1 = true := by decide +kernel
theorem zd_52 : zdsc zmd_52.1 2 := ⟨by decide, by decide, by decide +kernel⟩
theorem zc_53 : zCode zmd_53 ∈ zTg := zw_7_152
theorem zp_53 : plainFor zmd_53.1 = true := by decide +kernel
theorem zd_53 : zdsc zmd_53.1 1 := ⟨by decide, by decide, by decide +kernel⟩
theorem zc_54 : zCode zmd_54 ∈ zTg := zw_7_140
theorem zp_54 : plainFor zmd_54.1 = true := by decide +kernel
theorem zd_54 : zdsc zmd_54.1 1 := ⟨by decide, by decide, by decide +kernel⟩
theorem zc_55 : zCode zmd_55 ∈ zTg := zw_7_156
theorem zp_55 : plainFor zmd_55.1 = true := by decide +kernel
theorem zd_55 : zdsc zmd_55.1 1 := ⟨by decide, by decide, by decide +kernel⟩
theorem zc_56 : zCode zmd_56 ∈ zTg := zw_3_141
theorem zp_56 : plainFor zmd_56.1 = true := by decide +kernel
theorem zd_56 : zdsc zmd_56.1 4 := ⟨by decide, by decide, by decide +kernel⟩
theorem zc_57 : zCode zmd_57 ∈ zTg := zw_3_145
theorem zp_57 : plainFor zmd_57.1 = true := by decide +kernel
theorem zd_57 : zdsc zmd_57.1 2 := ⟨by decide, by decide, by decide +kernel⟩
theorem zc_58 : zCode zmd_58 ∈ zTg := zw_7_160
theorem zp_58 : plainFor zmd_58.1 = true := by decide +kernel
theorem zd_58 : zdsc zmd_58.1 2 := ⟨by decide, by decide, by decide +kernel⟩
theorem zc_59 : zCode zmd_59 ∈ zTg := zw_3_148
theorem zp_59 : plainFor zmd_59.1 = true := by decide +kernel
theorem zd_59 : zdsc zmd_59.1 4 := ⟨by decide, by decide, by decide +kernel⟩
theorem zc_60 : zCode zmd_60 ∈ zTg := zw_3_153
theorem zp_60 : plainFor zmd_60.1 = true := by decide +kernel
theorem zd_60 : zdsc zmd_60.1 2 := ⟨by decide, by decide, by decide +kernel⟩
theorem zc_61 : zCode zmd_61 ∈ zTg := zw_3_157
theorem zp_61 : plainFor zmd_61.1 = true := by decide +kernel
theorem zd_61 : zdsc zmd_61.1 3 := ⟨by decide, by decide, by decide +kernel⟩
theorem zc_62 : zCode zmd_62 ∈ zTg := zw_2_208
theorem zp_62 : plainFor zmd_62.1 = true := by decide +kernel
theorem zd_62 : zdsc zmd_62.1 1 := ⟨by decide, by decide, by decide +kernel⟩
theorem zc_63 : zCode zmd_63 ∈ zTg := zw_2_212
theorem zp_63 : plainFor zmd_63.1 = true := by decide +kernel
theorem zd_63 : zdsc zmd_63.1 1 := ⟨by decide, by decide, by decide +kernel⟩
theorem zc_64 : zCode zmd_64 ∈ zTg := zw_7_164
theorem zp_64 : plainFor zmd_64.1 = true := by decide +kernel
theorem zd_64 : zdsc zmd_64.1 2 := ⟨by decide, by decide, by decide +kernel⟩
theorem zc_65 : zCode zmd_65 ∈ zTg := zw_7_168
theorem zp_65 : plainFor zmd_65.1 = true := by decide +kernel
theorem zd_65 : zdsc zmd_65.1 2 := ⟨by decide, by decide, by decide +kernel⟩
theorem zc_66 : zCode zmd_66 ∈ zTg := zw_7_172
theorem zp_66 : plainFor zmd_66.1 = true := by decide +kernel
theorem zd_66 : zdsc zmd_66.1 1 := ⟨by decide, by decide, by decide +kernel⟩
theorem zc_67 : zCode zmd_67 ∈ zTg := zw_7_175
theorem zp_67 : plainFor zmd_67.1 = true := by decide +kernel
theorem zd_67 : zdsc zmd_67.1 2 := ⟨by decide, by decide, by decide +kernel⟩
theorem zc_68 : zCode zmd_68 ∈ zTg := zw_7_121
theorem zp_68 : plainFor zmd_68.1 = true := by decide +kernel
theorem zd_68 : zdsc zmd_68.1 0 := ⟨by decide, by decide, by decide +kernel⟩
theorem zc_69 : zCode zmd_69 ∈ zTg := zw_3_176
theorem zp_69 : plainFor zmd_69.1 = true := by decide +kernel
theorem zd_69 : zdsc zmd_69.1 4 := ⟨by decide, by decide, by decide +kernel⟩
theorem zc_70 : zCode zmd_70 ∈ zTg := zw_3_180
theorem zp_70 : plainFor zmd_70.1 = true := by decide +kernel
theorem zd_70 : zdsc zmd_70.1 2 := ⟨by decide, by decide, by decide +kernel⟩
theorem zc_71 : zCode zmd_71 ∈ zTg := zw_7_179
theorem zp_71 : plainFor zmd_71.1 = true := by decide +kernel
theorem zd_71 : zdsc zmd_71.1 2 := ⟨by decide, by decide, by decide +kernel⟩
theorem zc_72 : zCode zmd_72 ∈ zTg := zw_7_184
theorem zp_72 : plainFor zmd_72.1 = true := by decide +kernel
theorem zd_72 : zdsc zmd_72.1 1 := ⟨by decide, by decide, by decide +kernel⟩
theorem zc_73 : zCode zmd_73 ∈ zTg := zw_7_188
theorem zp_73 : plainFor zmd_73.1 = true := by decide +kernel
theorem zd_73 : zdsc zmd_73.1 2 := ⟨by decide, by decide, by decide +kernel⟩
theorem zc_74 : zCode zmd_74 ∈ zTg := zw_7_192
theorem zp_74 : plainFor zmd_74.1 = true := by decide +kernel
theorem zd_74 : zdsc zmd_74.1 0 := ⟨by decide, by decide, by decide +kernel⟩
theorem zc_75 : zCode zmd_75 ∈ zTg := zw_7_197
theorem zp_75 : plainFor zmd_75.1 = true := by decide +kernel
theorem zd_75 : zdsc zmd_75.1 0 := ⟨by decide, by decide, by decide +kernel⟩
theorem zc_76 : zCode zmd_76 ∈ zTg := zw_7_201
theorem zp_76 : plainFor zmd_76.1 = true := by decide +kernel
theorem zd_76 : zdsc zmd_76.1 0 := ⟨by decide, by decide, by decide +kernel⟩
theorem zc_77 : zCode zmd_77 ∈ zTg := zw_7_204
theorem zp_77 : plainFor zmd_77.1 = true := by decide +kernel
theorem zd_77 : zdsc zmd_77.1 4 := ⟨by decide, by decide, by decide +kernel⟩
theorem zc_78 : zCode zmd_78 ∈ zTg := zw_7_207
theorem zp_78 : plainFor zmd_78.1 = true := by decide +kernel
theorem zd_78 : zdsc zmd_78.1 1 := ⟨by decide, by decide, by decide +kernel⟩
theorem zc_79 : zCode zmd_79 ∈ zTg := zw_7_146
theorem zp_79 : plainFor zmd_79.1 = true := by decide +kernel
theorem zd_79 : zdsc zmd_79.1 2 := ⟨by decide, by decide, by decide +kernel⟩
theorem zc_80 : zCode zmd_80 ∈ zTg := zw_7_211
theorem zp_80 : plainFor zmd_80.1 = true := by decide +kernel
theorem zd_80 : zdsc zmd_80.1 2 := ⟨by decide, by decide, by decide +kernel⟩
theorem zc_81 : zCode zmd_81 ∈ zTg := zw_7_214
theorem zp_81 : plainFor zmd_81.1 = true := by decide +kernel
theorem zd_81 : zdsc zmd_81.1 4 := ⟨by decide, by decide, by decide +kernel⟩
theorem zc_82 : zCode zmd_82 ∈ zTg := zw_8_31
theorem zp_82 : plainFor zmd_82.1 = true := by decide +kernel
theorem zd_82 : zdsc zmd_82.1 1 := ⟨by decide, by decide, by decide +kernel⟩
theorem zc_83 : zCode zmd_83 ∈ zTg := zw_3_195
theorem zp_83 : plainFor zmd_83.1 = true := by decide +kernel
theorem zd_83 : zdsc zmd_83.1 3 := ⟨by decide, by decide, by decide +kernel⟩
theorem zc_84 : zCode zmd_84 ∈ zTg := zw_3_213
theorem zp_84 : plainFor zmd_84.1 = true := by decide +kernel
theorem zd_84 : zdsc zmd_84.1 1 := ⟨by decide, by decide, by decide +kernel⟩
theorem zc_85 : zCode zmd_85 ∈ zTg := zw_8_36
theorem zp_85 : plainFor zmd_85.1 = true := by decide +kernel
theorem zd_85 : zdsc zmd_85.1 1 := ⟨by decide, by decide, by decide +kernel⟩
theorem zc_86 : zCode zmd_86 ∈ zTg := zw_3_219
theorem zp_86 : plainFor zmd_86.1 = true := by decide +kernel
theorem zd_86 : zdsc zmd_86.1 4 := ⟨by decide, by decide, by decide +kernel⟩
theorem zc_87 : zCode zmd_87 ∈ zTg := zw_3_223
theorem zp_87 : plainFor zmd_87.1 = true := by decide +kernel
theorem zd_87 : zdsc zmd_87.1 2 := ⟨by decide, by decide, by decide +kernel⟩
theorem zc_88 : zCode zmd_88 ∈ zTg := zw_8_40
theorem zp_88 : plainFor zmd_88.1 = true := by decide +kernel
theorem zd_88 : zdsc zmd_88.1 2 := ⟨by decide, by decide, by decide +kernel⟩
theorem zc_89 : zCode zmd_89 ∈ zTg := zw_3_227
theorem zp_89 : plainFor zmd_89.1 = true := by decide +kernel
theorem zd_89 : zdsc zmd_89.1 1 := ⟨by decide, by decide, by decide +kernel⟩
theorem zc_90 : zCode zmd_90 ∈ zTg := zw_3_231
theorem zp_90 : plainFor zmd_90.1 = true := by decide +kernel
theorem zd_90 : zdsc zmd_90.1 1 := ⟨by decide, by decide, by decide +kernel⟩
theorem zc_91 : zCode zmd_91 ∈ zTg := zw_8_44
theorem zp_91 : plainFor zmd_91.1 = true := by decide +kernel
theorem zd_91 : zdsc zmd_91.1 1 := ⟨by decide, by decide, by decide +kernel⟩
theorem zc_92 : zCode zmd_92 ∈ zTg := zw_7_149
theorem zp_92 : plainFor zmd_92.1 = true := by decide +kernel
theorem zd_92 : zdsc zmd_92.1 2 := ⟨by decide, by decide, by decide +kernel⟩
theorem zc_93 : zCode zmd_93 ∈ zTg := zw_3_234
theorem zp_93 : plainFor zmd_93.1 = true := by decide +kernel
theorem zd_93 : zdsc zmd_93.1 6 := ⟨by decide, by decide, by decide +kernel⟩
theorem zc_94 : zCode zmd_94 ∈ zTg := zw_3_238
theorem zp_94 : plainFor zmd_94.1 = true := by decide +kernel
theorem zd_94 : zdsc zmd_94.1 4 := ⟨by decide, by decide, by decide +kernel⟩
theorem zc_95 : zCode zmd_95 ∈ zTg := zw_8_48
theorem zp_95 : plainFor zmd_95.1 = true := by decide +kernel
theorem zd_95 : zdsc zmd_95.1 4 := ⟨by decide, by decide, by decide +kernel⟩
theorem zc_96 : zCode zmd_96 ∈ zTg := zw_4_4
theorem zp_96 : plainFor zmd_96.1 = true := by decide +kernel
theorem zd_96 : zdsc zmd_96.1 3 := ⟨by decide, by decide, by decide +kernel⟩
theorem zc_97 : zCode zmd_97 ∈ zTg := zw_8_52
theorem zp_97 : plainFor zmd_97.1 = true := by decide +kernel
theorem zd_97 : zdsc zmd_97.1 3 := ⟨by decide, by decide, by decide +kernel⟩
theorem zc_98 : zCode zmd_98 ∈ zTg := zw_4_12
theorem zp_98 : plainFor zmd_98.1 = true := by decide +kernel
theorem zd_98 : zdsc zmd_98.1 2 := ⟨by decide, by decide, by decide +kernel⟩
theorem zc_99 : zCode zmd_99 ∈ zTg := zw_4_15
theorem zp_99 : plainFor zmd_99.1 = true := by decide +kernel
theorem zd_99 : zdsc zmd_99.1 2 := ⟨by decide, by decide, by decide +kernel⟩
theorem zc_100 : zCode zmd_100 ∈ zTg := zw_8_60
theorem zp_100 : plainFor zmd_100.1 = true := by decide +kernel
theorem zd_100 : zdsc zmd_100.1 1 := ⟨by decide, by decide, by decide +kernel⟩
theorem zc_101 : zCode zmd_101 ∈ zTg := zw_8_63
theorem zp_101 : plainFor zmd_101.1 = true := by decide +kernel
theorem zd_101 : zdsc zmd_101.1 2 := ⟨by decide, by decide, by decide +kernel⟩
theorem zc_102 : zCode zmd_102 ∈ zTg := zw_4_23
theorem zp_102 : plainFor zmd_102.1 = true := by decide +kernel
theorem zd_102 : zdsc zmd_102.1 3 := ⟨by decide, by decide, by decide +kernel⟩
theorem zc_103 : zCode zmd_103 ∈ zTg := zw_4_62
theorem zp_103 : plainFor zmd_103.1 = true := by decide +kernel
theorem zd_103 : zdsc zmd_103.1 2 := ⟨by decide, by decide, by decide +kernel⟩
theorem zc_104 : zCode zmd_104 ∈ zTg := zw_4_66
theorem zp_104 : plainFor zmd_104.1 = true := by decide +kernel
theorem zd_104 : zdsc zmd_104.1 1 := ⟨by decide, by decide, by decide +kernel⟩
theorem zc_105 : zCode zmd_105 ∈ zTg := zw_8_93
theorem zp_105 : plainFor zmd_105.1 = true := by decide +kernel
theorem zd_105 : zdsc zmd_105.1 2 := ⟨by decide, by decide, by decide +kernel⟩
theorem zc_106 : zCode zmd_106 ∈ zTg := zw_8_97
theorem zp_106 : plainFor zmd_106.1 = true := by decide +kernel
theorem zd_106 : zdsc zmd_106.1 0 := ⟨by decide, by decide, by decide +kernel⟩
theorem zc_107 : zCode zmd_107 ∈ zTg := zw_4_73
theorem zp_107 : plainFor zmd_107.1 = true := by decide +kernel
theorem zd_107 : zdsc zmd_107.1 2 := ⟨by decide, by decide, by decide +kernel⟩
theorem zc_108 : zCode zmd_108 ∈ zTg := zw_8_100
theorem zp_108 : plainFor zmd_108.1 = true := by decide +kernel
theorem zd_108 : zdsc zmd_108.1 2 := ⟨by decide, by decide, by decide +kernel⟩
theorem zc_109 : zCode zmd_109 ∈ zTg := zw_4_80
theorem zp_109 : plainFor zmd_109.1 = true := by decide +kernel
theorem zd_109 : zdsc zmd_109.1 3 := ⟨by decide, by decide, by decide +kernel⟩
theorem zc_110 : zCode zmd_110 ∈ zTg := zw_4_83
theorem zp_110 : plainFor zmd_110.1 = true := by decide +kernel
theorem zd_110 : zdsc zmd_110.1 3 := ⟨by decide, by decide, by decide +kernel⟩
theorem zc_111 : zCode zmd_111 ∈ zTg := zw_8_103
theorem zp_111 : plainFor zmd_111.1 = true := by decide +kernel
theorem zd_111 : zdsc zmd_111.1 3 := ⟨by decide, by decide, by decide +kernel⟩
theorem zc_112 : zCode zmd_112 ∈ zTg := zw_8_107
theorem zp_112 : plainFor zmd_112.1 = true := by decide +kernel
theorem zd_112 : zdsc zmd_112.1 3 := ⟨by decide, by decide, by decide +kernel⟩
theorem zc_113 : zCode zmd_113 ∈ zTg := zw_4_8
theorem zp_113 : plainFor zmd_113.1 = true := by decide +kernel
theorem zd_113 : zdsc zmd_113.1 2 := ⟨by decide, by decide, by decide +kernel⟩
theorem zc_114 : zCode zmd_114 ∈ zTg := zw_8_56
theorem zp_114 : plainFor zmd_114.1 = true := by decide +kernel
theorem zd_114 : zdsc zmd_114.1 1 := ⟨by decide, by decide, by decide +kernel⟩
theorem zc_115 : zCode zmd_115 ∈ zTg := zw_7_134
theorem zp_115 : plainFor zmd_115.1 = true := by decide +kernel
theorem zd_115 : zdsc zmd_115.1 0 := ⟨by decide, by decide, by decide +kernel⟩
theorem zc_116 : zCode zmd_116 ∈ zTg := zw_4_87
theorem zp_116 : plainFor zmd_116.1 = true := by decide +kernel
theorem zd_116 : zdsc zmd_116.1 5 := ⟨by decide, by decide, by decide +kernel⟩
theorem zc_117 : zCode zmd_117 ∈ zTg := zw_4_91
theorem zp_117 : plainFor zmd_117.1 = true := by decide +kernel
theorem zd_117 : zdsc zmd_117.1 3 := ⟨by decide, by decide, by decide +kernel⟩
theorem zc_118 : zCode zmd_118 ∈ zTg := zw_4_96
theorem zp_118 : plainFor zmd_118.1 = true := by decide +kernel
theorem zd_118 : zdsc zmd_118.1 2 := ⟨by decide, by decide, by decide +kernel⟩
theorem zc_119 : zCode zmd_119 ∈ zTg := zw_8_112
theorem zp_119 : plainFor zmd_119.1 = true := by decide +kernel
theorem zd_119 : zdsc zmd_119.1 3 := ⟨by decide, by decide, by decide +kernel⟩
theorem zc_120 : zCode zmd_120 ∈ zTg := zw_4_101
theorem zp_120 : plainFor zmd_120.1 = true := by decide +kernel
theorem zd_120 : zdsc zmd_120.1 2 := ⟨by decide, by decide, by decide +kernel⟩
theorem zc_121 : zCode zmd_121 ∈ zTg := zw_8_117
theorem zp_121 : plainFor zmd_121.1 = true := by decide +kernel
theorem zd_121 : zdsc zmd_121.1 2 := ⟨by decide, by decide, by decide +kernel⟩
theorem zc_122 : zCode zmd_122 ∈ zTg := zw_8_121
theorem zp_122 : plainFor zmd_122.1 = true := by decide +kernel
theorem zd_122 : zdsc zmd_122.1 2 := ⟨by decide, by decide, by decide +kernel⟩
theorem zc_123 : zCode zmd_123 ∈ zTg := zw_3_111
theorem zp_123 : plainFor zmd_123.1 = true := by decide +kernel
theorem zd_123 : zdsc zmd_123.1 1 := ⟨by decide, by decide, by decide +kernel⟩
theorem zc_124 : zCode zmd_124 ∈ zTg := zw_7_130
theorem zp_124 : plainFor zmd_124.1 = true := by decide +kernel
theorem zd_124 : zdsc zmd_124.1 0 := ⟨by decide, by decide, by decide +kernel⟩
theorem zc_125 : zCode zmd_125 ∈ zTg := zw_4_120
theorem zp_125 : plainFor zmd_125.1 = true := by decide +kernel
theorem zd_125 : zdsc zmd_125.1 5 := ⟨by decide, by decide, by decide +kernel⟩
theorem zc_126 : zCode zmd_126 ∈ zTg := zw_4_124
theorem zp_126 : plainFor zmd_126.1 = true := by decide +kernel
theorem zd_126 : zdsc zmd_126.1 3 := ⟨by decide, by decide, by decide +kernel⟩
theorem zc_127 : zCode zmd_127 ∈ zTg := zw_4_128
theorem zp_127 : plainFor zmd_127.1 = true := by decide +kernel
theorem zd_127 : zdsc zmd_127.1 2 := ⟨by decide, by decide, by decide +kernel⟩
theorem zc_128 : zCode zmd_128 ∈ zTg := zw_4_52
theorem zp_128 : plainFor zmd_128.1 = true := by decide +kernel
theorem zd_128 : zdsc zmd_128.1 2 := ⟨by decide, by decide, by decide +kernel⟩
theorem zc_129 : zCode zmd_129 ∈ zTg := zw_8_125
theorem zp_129 : plainFor zmd_129.1 = true := by decide +kernel
theorem zd_129 : zdsc zmd_129.1 3 := ⟨by decide, by decide, by decide +kernel⟩
theorem zc_130 : zCode zmd_130 ∈ zTg := zw_7_124
theorem zp_130 : plainFor zmd_130.1 = true := by decide +kernel
theorem zd_130 : zdsc zmd_130.1 2 := ⟨by decide, by decide, by decide +kernel⟩
theorem zc_131 : zCode zmd_131 ∈ zTg := zw_4_136
theorem zp_131 : plainFor zmd_131.1 = true := by decide +kernel
theorem zd_131 : zdsc zmd_131.1 4 := ⟨by decide, by decide, by decide +kernel⟩
theorem zc_132 : zCode zmd_132 ∈ zTg := zw_4_140
theorem zp_132 : plainFor zmd_132.1 = true := by decide +kernel
theorem zd_132 : zdsc zmd_132.1 2 := ⟨by decide, by decide, by decide +kernel⟩
theorem zc_133 : zCode zmd_133 ∈ zTg := zw_8_130
theorem zp_133 : plainFor zmd_133.1 = true := by decide +kernel
theorem zd_133 : zdsc zmd_133.1 2 := ⟨by decide, by decide, by decide +kernel⟩
theorem zc_134 : zCode zmd_134 ∈ zTg := zw_4_143
theorem zp_134 : plainFor zmd_134.1 = true := by decide +kernel
theorem zd_134 : zdsc zmd_134.1 5 := ⟨by decide, by decide, by decide +kernel⟩
theorem zc_135 : zCode zmd_135 ∈ zTg := zw_4_147
theorem zp_135 : plainFor zmd_135.1 = true := by decide +kernel
theorem zd_135 : zdsc zmd_135.1 3 := ⟨by decide, by decide, by decide +kernel⟩
theorem zc_136 : zCode zmd_136 ∈ zTg := zw_4_108
theorem zp_136 : plainFor zmd_136.1 = true := by decide +kernel
theorem zd_136 : zdsc zmd_136.1 1 := ⟨by decide, by decide, by decide +kernel⟩
theorem zc_137 : zCode zmd_137 ∈ zTg := zw_8_134
theorem zp_137 : plainFor zmd_137.1 = true := by decide +kernel
theorem zd_137 : zdsc zmd_137.1 3 := ⟨by decide, by decide, by decide +kernel⟩
theorem zc_138 : zCode zmd_138 ∈ zTg := zw_4_152
theorem zp_138 : plainFor zmd_138.1 = true := by decide +kernel
theorem zd_138 : zdsc zmd_138.1 5 := ⟨by decide, by decide, by decide +kernel⟩
theorem zc_139 : zCode zmd_139 ∈ zTg := zw_4_156
theorem zp_139 : plainFor zmd_139.1 = true := by decide +kernel
theorem zd_139 : zdsc zmd_139.1 3 := ⟨by decide, by decide, by decide +kernel⟩
theorem zc_140 : zCode zmd_140 ∈ zTg := zw_4_113
theorem zp_140 : plainFor zmd_140.1 = true := by decide +kernel
theorem zd_140 : zdsc zmd_140.1 3 := ⟨by decide, by decide, by decide +kernel⟩
theorem zc_141 : zCode zmd_141 ∈ zTg := zw_8_140
theorem zp_141 : plainFor zmd_141.1 = true := by decide +kernel
theorem zd_141 : zdsc zmd_141.1 3 := ⟨by decide, by decide, by decide +kernel⟩
theorem zc_142 : zCode zmd_142 ∈ zTg := zw_4_160
theorem zp_142 : plainFor zmd_142.1 = true := by decide +kernel
theorem zd_142 : zdsc zmd_142.1 6 := ⟨by decide, by decide, by decide +kernel⟩
theorem zc_143 : zCode zmd_143 ∈ zTg := zw_4_164
theorem zp_143 : plainFor zmd_143.1 = true := by decide +kernel
theorem zd_143 : zdsc zmd_143.1 4 := ⟨by decide, by decide, by decide +kernel⟩
theorem zc_144 : zCode zmd_144 ∈ zTg := zw_8_145
theorem zp_144 : plainFor zmd_144.1 = true := by decide +kernel
theorem zd_144 : zdsc zmd_144.1 4 := ⟨by decide, by decide, by decide +kernel⟩
theorem zc_145 : zCode zmd_145 ∈ zTg := zw_4_168
theorem zp_145 : plainFor zmd_145.1 = true := by decide +kernel
theorem zd_145 : zdsc zmd_145.1 3 := ⟨by decide, by decide, by decide +kernel⟩
theorem zc_146 : zCode zmd_146 ∈ zTg := zw_4_172
theorem zp_146 : plainFor zmd_146.1 = true := by decide +kernel
theorem zd_146 : zdsc zmd_146.1 1 := ⟨by decide, by decide, by decide +kernel⟩
theorem zc_147 : zCode zmd_147 ∈ zTg := zw_8_149
theorem zp_147 : plainFor zmd_147.1 = true := by decide +kernel
theorem zd_147 : zdsc zmd_147.1 1 := ⟨by decide, by decide, by decide +kernel⟩
theorem zc_148 : zCode zmd_148 ∈ zTg := zw_4_176
theorem zp_148 : plainFor zmd_148.1 = true := by decide +kernel
theorem zd_148 : zdsc zmd_148.1 0 := ⟨by decide, by decide, by decide +kernel⟩
theorem zc_149 : zCode zmd_149 ∈ zTg := zw_4_181
theorem zp_149 : plainFor zmd_149.1 = true := by decide +kernel
theorem zd_149 : zdsc zmd_149.1 1 := ⟨by decide, by decide, by decide +kernel⟩
theorem zc_150 : zCode zmd_150 ∈ zTg := zw_8_155
theorem zp_150 : plainFor zmd_150.1 = true := by decide +kernel
theorem zd_150 : zdsc zmd_150.1 0 := ⟨by decide, by decide, by decide +kernel⟩
theorem zc_151 : zCode zmd_151 ∈ zTg := zw_8_158
theorem zp_151 : plainFor zmd_151.1 = true := by decide +kernel
theorem zd_151 : zdsc zmd_151.1 0 := ⟨by decide, by decide, by decide +kernel⟩
theorem zc_152 : zCode zmd_152 ∈ zTg := zw_8_162
theorem zp_152 : plainFor zmd_152.1 = true := by decide +kernel
theorem zd_152 : zdsc zmd_152.1 1 := ⟨by decide, by decide, by decide +kernel⟩
theorem zc_153 : zCode zmd_153 ∈ zTg := zw_8_165
theorem zp_153 : plainFor zmd_153.1 = true := by decide +kernel
theorem zd_153 : zdsc zmd_153.1 1 := ⟨by decide, by decide, by decide +kernel⟩
theorem zc_154 : zCode zmd_154 ∈ zTg := zw_8_169
theorem zp_154 : plainFor zmd_154.1 = true := by decide +kernel
theorem zd_154 : zdsc zmd_154.1 1 := ⟨by decide, by decide, by decide +kernel⟩
theorem zc_155 : zCode zmd_155 ∈ zTg := zw_8_199
theorem zp_155 : plainFor zmd_155.1 = true := by decide +kernel
theorem zd_155 : zdsc zmd_155.1 0 := ⟨by decide, by decide, by decide +kernel⟩
theorem zc_156 : zCode zmd_156 ∈ zTg := zw_8_202
theorem zp_156 : plainFor zmd_156.1 = true := by decide +kernel
theorem zd_156 : zdsc zmd_156.1 1 := ⟨by decide, by decide, by decide +kernel⟩
theorem zc_157 : zCode zmd_157 ∈ zTg := zw_2_159
theorem zp_157 : plainFor zmd_157.1 = true := by decide +kernel
theorem zd_157 : zdsc zmd_157.1 0 := ⟨by decide, by decide, by decide +kernel⟩
theorem zc_158 : zCode zmd_158 ∈ zTg := zw_9_0
theorem zp_158 : plainFor zmd_158.1 = true := by decide +kernel
theorem zd_158 : zdsc zmd_158.1 0 := ⟨by decide, by decide, by decide +kernel⟩
theorem zc_159 : zCode zmd_159 ∈ zTg := zw_9_4
theorem zp_159 : plainFor zmd_159.1 = true := by decide +kernel
theorem zd_159 : zdsc zmd_159.1 1 := ⟨by decide, by decide, by decide +kernel⟩
theorem zc_160 : zCode zmd_160 ∈ zTg := zw_9_7
theorem zp_160 : plainFor zmd_160.1 = true := by decide +kernel
theorem zd_160 : zdsc zmd_160.1 1 := ⟨by decide, by decide, by decide +kernel⟩
theorem zc_161 : zCode zmd_161 ∈ zTg := zw_4_184
theorem zp_161 : plainFor zmd_161.1 = true := by decide +kernel
theorem zd_161 : zdsc zmd_161.1 3 := ⟨by decide, by decide, by decide +kernel⟩
theorem zc_162 : zCode zmd_162 ∈ zTg := zw_4_188
theorem zp_162 : plainFor zmd_162.1 = true := by decide +kernel
theorem zd_162 : zdsc zmd_162.1 1 := ⟨by decide, by decide, by decide +kernel⟩
theorem zc_163 : zCode zmd_163 ∈ zTg := zw_9_161
theorem zp_163 : plainFor zmd_163.1 = true := by decide +kernel
theorem zd_163 : zdsc zmd_163.1 1 := ⟨by decide, by decide, by decide +kernel⟩
theorem zc_164 : zCode zmd_164 ∈ zTg := zw_4_192
theorem zp_164 : plainFor zmd_164.1 = true := by decide +kernel
theorem zd_164 : zdsc zmd_164.1 4 := ⟨by decide, by decide, by decide +kernel⟩
theorem zc_165 : zCode zmd_165 ∈ zTg := zw_4_196
theorem zp_165 : plainFor zmd_165.1 = true := by decide +kernel
theorem zd_165 : zdsc zmd_165.1 2 := ⟨by decide, by decide, by decide +kernel⟩
theorem zc_166 : zCode zmd_166 ∈ zTg := zw_4_202
theorem zp_166 : plainFor zmd_166.1 = true := by decide +kernel
theorem zd_166 : zdsc zmd_166.1 2 := ⟨by decide, by decide, by decide +kernel⟩
theorem zc_167 : zCode zmd_167 ∈ zTg := zw_2_218
theorem zp_167 : plainFor zmd_167.1 = true := by decide +kernel
theorem zd_167 : zdsc zmd_167.1 1 := ⟨by decide, by decide, by decide +kernel⟩
theorem zc_168 : zCode zmd_168 ∈ zTg := zw_9_175
theorem zp_168 : plainFor zmd_168.1 = true := by decide +kernel
theorem zd_168 : zdsc zmd_168.1 2 := ⟨by decide, by decide, by decide +kernel⟩
theorem zc_169 : zCode zmd_169 ∈ zTg := zw_4_211
theorem zp_169 : plainFor zmd_169.1 = true := by decide +kernel
theorem zd_169 : zdsc zmd_169.1 4 := ⟨by decide, by decide, by decide +kernel⟩
theorem zc_170 : zCode zmd_170 ∈ zTg := zw_4_215
theorem zp_170 : plainFor zmd_170.1 = true := by decide +kernel
theorem zd_170 : zdsc zmd_170.1 2 := ⟨by decide, by decide, by decide +kernel⟩
theorem zc_171 : zCode zmd_171 ∈ zTg := zw_4_219
theorem zp_171 : plainFor zmd_171.1 = true := by decide +kernel
theorem zd_171 : zdsc zmd_171.1 2 := ⟨by decide, by decide, by decide +kernel⟩
theorem zc_172 : zCode zmd_172 ∈ zTg := zw_4_232
theorem zp_172 : plainFor zmd_172.1 = true := by decide +kernel
theorem zd_172 : zdsc zmd_172.1 0 := ⟨by decide, by decide, by decide +kernel⟩
theorem zc_173 : zCode zmd_173 ∈ zTg := zw_9_184
theorem zp_173 : plainFor zmd_173.1 = true := by decide +kernel
theorem zd_173 : zdsc zmd_173.1 2 := ⟨by decide, by decide, by decide +kernel⟩
theorem zc_174 : zCode zmd_174 ∈ zTg := zw_8_76
theorem zp_174 : plainFor zmd_174.1 = true := by decide +kernel
theorem zd_174 : zdsc zmd_174.1 2 := ⟨by decide, by decide, by decide +kernel⟩
theorem zc_175 : zCode zmd_175 ∈ zTg := zw_9_189
theorem zp_175 : plainFor zmd_175.1 = true := by decide +kernel
theorem zd_175 : zdsc zmd_175.1 1 := ⟨by decide, by decide, by decide +kernel⟩
theorem zc_176 : zCode zmd_176 ∈ zTg := zw_9_192
theorem zp_176 : plainFor zmd_176.1 = true := by decide +kernel
theorem zd_176 : zdsc zmd_176.1 2 := ⟨by decide, by decide, by decide +kernel⟩
theorem zc_177 : zCode zmd_177 ∈ zTg := zw_8_233
theorem zp_177 : plainFor zmd_177.1 = true := by decide +kernel
theorem zd_177 : zdsc zmd_177.1 2 := ⟨by decide, by decide, by decide +kernel⟩
theorem zc_178 : zCode zmd_178 ∈ zTg := zw_8_236
theorem zp_178 : plainFor zmd_178.1 = true := by decide +kernel
theorem zd_178 : zdsc zmd_178.1 3 := ⟨by decide, by decide, by decide +kernel⟩
theorem zc_179 : zCode zmd_179 ∈ zTg := zw_9_165
theorem zp_179 : plainFor zmd_179.1 = true := by decide +kernel
theorem zd_179 : zdsc zmd_179.1 1 := ⟨by decide, by decide, by decide +kernel⟩
theorem zc_180 : zCode zmd_180 ∈ zTg := zw_9_168
theorem zp_180 : plainFor zmd_180.1 = true := by decide +kernel
theorem zd_180 : zdsc zmd_180.1 1 := ⟨by decide, by decide, by decide +kernel⟩
theorem zc_181 : zCode zmd_181 ∈ zTg := zw_4_235
theorem zp_181 : plainFor zmd_181.1 = true := by decide +kernel
theorem zd_181 : zdsc zmd_181.1 3 := ⟨by decide, by decide, by decide +kernel⟩
theorem zc_182 : zCode zmd_182 ∈ zTg := zw_4_239
theorem zp_182 : plainFor zmd_182.1 = true := by decide +kernel
theorem zd_182 : zdsc zmd_182.1 1 := ⟨by decide, by decide, by decide +kernel⟩
theorem zc_183 : zCode zmd_183 ∈ zTg := zw_5_3
theorem zp_183 : plainFor zmd_183.1 = true := by decide +kernel
theorem zd_183 : zdsc zmd_183.1 0 := ⟨by decide, by decide, by decide +kernel⟩
theorem zc_184 : zCode zmd_184 ∈ zTg := zw_5_8
theorem zp_184 : plainFor zmd_184.1 = true := by decide +kernel
theorem zd_184 : zdsc zmd_184.1 1 := ⟨by decide, by decide, by decide +kernel⟩
theorem zc_185 : zCode zmd_185 ∈ zTg := zw_9_200
theorem zp_185 : plainFor zmd_185.1 = true := by decide +kernel
theorem zd_185 : zdsc zmd_185.1 1 := ⟨by decide, by decide, by decide +kernel⟩
theorem zc_186 : zCode zmd_186 ∈ zTg := zw_9_212
theorem zp_186 : plainFor zmd_186.1 = true := by decide +kernel
theorem zd_186 : zdsc zmd_186.1 0 := ⟨by decide, by decide, by decide +kernel⟩
theorem zc_187 : zCode zmd_187 ∈ zTg := zw_9_215
theorem zp_187 : plainFor zmd_187.1 = true := by decide +kernel
theorem zd_187 : zdsc zmd_187.1 1 := ⟨by decide, by decide, by decide +kernel⟩
theorem zc_188 : zCode zmd_188 ∈ zTg := zw_10_1
theorem zp_188 : plainFor zmd_188.1 = true := by decide +kernel
theorem zd_188 : zdsc zmd_188.1 1 := ⟨by decide, by decide, by decide +kernel⟩
theorem zc_189 : zCode zmd_189 ∈ zTg := zw_10_5
theorem zp_189 : plainFor zmd_189.1 = true := by decide +kernel
theorem zd_189 : zdsc zmd_189.1 3 := ⟨by decide, by decide, by decide +kernel⟩
theorem zc_190 : zCode zmd_190 ∈ zTg := zw_10_9
theorem zp_190 : plainFor zmd_190.1 = true := by decide +kernel
theorem zd_190 : zdsc zmd_190.1 0 := ⟨by decide, by decide, by decide +kernel⟩
theorem zc_191 : zCode zmd_191 ∈ zTg := zw_10_13
theorem zp_191 : plainFor zmd_191.1 = true := by decide +kernel
theorem zd_191 : zdsc zmd_191.1 1 := ⟨by decide, by decide, by decide +kernel⟩
theorem zc_192 : zCode zmd_192 ∈ zTg := zw_2_163
theorem zp_192 : plainFor zmd_192.1 = true := by decide +kernel
theorem zd_192 : zdsc zmd_192.1 0 := ⟨by decide, by decide, by decide +kernel⟩
theorem zc_193 : zCode zmd_193 ∈ zTg := zw_10_56
theorem zp_193 : plainFor zmd_193.1 = true := by decide +kernel
theorem zd_193 : zdsc zmd_193.1 0 := ⟨by decide, by decide, by decide +kernel⟩
theorem zc_194 : zCode zmd_194 ∈ zTg := zw_10_65
theorem zp_194 : plainFor zmd_194.1 = true := by decide +kernel
theorem zd_194 : zdsc zmd_194.1 0 := ⟨by decide, by decide, by decide +kernel⟩
theorem zc_195 : zCode zmd_195 ∈ zTg := zw_5_11
theorem zp_195 : plainFor zmd_195.1 = true := by decide +kernel
theorem zd_195 : zdsc zmd_195.1 3 := ⟨by decide, by decide, by decide +kernel⟩
theorem zc_196 : zCode zmd_196 ∈ zTg := zw_5_15
theorem zp_196 : plainFor zmd_196.1 = true := by decide +kernel
theorem zd_196 : zdsc zmd_196.1 1 := ⟨by decide, by decide, by decide +kernel⟩
theorem zc_197 : zCode zmd_197 ∈ zTg := zw_10_69
theorem zp_197 : plainFor zmd_197.1 = true := by decide +kernel
theorem zd_197 : zdsc zmd_197.1 1 := ⟨by decide, by decide, by decide +kernel⟩
theorem zc_198 : zCode zmd_198 ∈ zTg := zw_10_78
theorem zp_198 : plainFor zmd_198.1 = true := by decide +kernel
theorem zd_198 : zdsc zmd_198.1 0 := ⟨by decide, by decide, by decide +kernel⟩
theorem zc_199 : zCode zmd_199 ∈ zTg := zw_5_27
theorem zp_199 : plainFor zmd_199.1 = true := by decide +kernel
theorem zd_199 : zdsc zmd_199.1 3 := ⟨by decide, by decide, by decide +kernel⟩
theorem zc_200 : zCode zmd_200 ∈ zTg := zw_5_31
theorem zp_200 : plainFor zmd_200.1 = true := by decide +kernel
theorem zd_200 : zdsc zmd_200.1 1 := ⟨by decide, by decide, by decide +kernel⟩
theorem zc_201 : zCode zmd_201 ∈ zTg := zw_5_35
theorem zp_201 : plainFor zmd_201.1 = true := by decide +kernel
theorem zd_201 : zdsc zmd_201.1 1 := ⟨by decide, by decide, by decide +kernel⟩
theorem zc_202 : zCode zmd_202 ∈ zTg := zw_10_104
theorem zp_202 : plainFor zmd_202.1 = true := by decide +kernel
theorem zd_202 : zdsc zmd_202.1 1 := ⟨by decide, by decide, by decide +kernel⟩
theorem zc_203 : zCode zmd_203 ∈ zTg := zw_5_41
theorem zp_203 : plainFor zmd_203.1 = true := by decide +kernel
theorem zd_203 : zdsc zmd_203.1 3 := ⟨by decide, by decide, by decide +kernel⟩
theorem zc_204 : zCode zmd_204 ∈ zTg := zw_5_45
theorem zp_204 : plainFor zmd_204.1 = true := by decide +kernel
theorem zd_204 : zdsc zmd_204.1 1 := ⟨by decide, by decide, by decide +kernel⟩
theorem zc_205 : zCode zmd_205 ∈ zTg := zw_10_109
theorem zp_205 : plainFor zmd_205.1 = true := by decide +kernel
theorem zd_205 : zdsc zmd_205.1 1 := ⟨by decide, by decide, by decide +kernel⟩
theorem zc_206 : zCode zmd_206 ∈ zTg := zw_5_48
theorem zp_206 : plainFor zmd_206.1 = true := by decide +kernel
theorem zd_206 : zdsc zmd_206.1 6 := ⟨by decide, by decide, by decide +kernel⟩
theorem zc_207 : zCode zmd_207 ∈ zTg := zw_5_52
theorem zp_207 : plainFor zmd_207.1 = true := by decide +kernel
theorem zd_207 : zdsc zmd_207.1 4 := ⟨by decide, by decide, by decide +kernel⟩
theorem zc_208 : zCode zmd_208 ∈ zTg := zw_10_113
theorem zp_208 : plainFor zmd_208.1 = true := by decide +kernel
theorem zd_208 : zdsc zmd_208.1 4 := ⟨by decide, by decide, by decide +kernel⟩
theorem zc_209 : zCode zmd_209 ∈ zTg := zw_5_79
theorem zp_209 : plainFor zmd_209.1 = true := by decide +kernel
theorem zd_209 : zdsc zmd_209.1 5 := ⟨by decide, by decide, by decide +kernel⟩
theorem zc_210 : zCode zmd_210 ∈ zTg := zw_5_83
theorem zp_210 : plainFor zmd_210.1 = true := by decide +kernel
theorem zd_210 : zdsc zmd_210.1 3 := ⟨by decide, by decide, by decide +kernel⟩
theorem zc_211 : zCode zmd_211 ∈ zTg := zw_10_126
theorem zp_211 : plainFor zmd_211.1 = true := by decide +kernel
theorem zd_211 : zdsc zmd_211.1 3 := ⟨by decide, by decide, by decide +kernel⟩
theorem zc_212 : zCode zmd_212 ∈ zTg := zw_5_86
theorem zp_212 : plainFor zmd_212.1 = true := by decide +kernel
theorem zd_212 : zdsc zmd_212.1 4 := ⟨by decide, by decide, by decide +kernel⟩
theorem zc_213 : zCode zmd_213 ∈ zTg := zw_5_90
theorem zp_213 : plainFor zmd_213.1 = true := by decide +kernel
theorem zd_213 : zdsc zmd_213.1 2 := ⟨by decide, by decide, by decide +kernel⟩
theorem zc_214 : zCode zmd_214 ∈ zTg := zw_10_130
theorem zp_214 : plainFor zmd_214.1 = true := by decide +kernel
theorem zd_214 : zdsc zmd_214.1 2 := ⟨by decide, by decide, by decide +kernel⟩
theorem zc_215 : zCode zmd_215 ∈ zTg := zw_5_101
theorem zp_215 : plainFor zmd_215.1 = true := by decide +kernel
theorem zd_215 : zdsc zmd_215.1 3 := ⟨by decide, by decide, by decide +kernel⟩
theorem zc_216 : zCode zmd_216 ∈ zTg := zw_5_105
theorem zp_216 : plainFor zmd_216.1 = true := by decide +kernel
theorem zd_216 : zdsc zmd_216.1 1 := ⟨by decide, by decide, by decide +kernel⟩
theorem zc_217 : zCode zmd_217 ∈ zTg := zw_5_109
theorem zp_217 : plainFor zmd_217.1 = true := by decide +kernel
theorem zd_217 : zdsc zmd_217.1 1 := ⟨by decide, by decide, by decide +kernel⟩
theorem zc_218 : zCode zmd_218 ∈ zTg := zw_10_137
theorem zp_218 : plainFor zmd_218.1 = true := by decide +kernel
theorem zd_218 : zdsc zmd_218.1 1 := ⟨by decide, by decide, by decide +kernel⟩
theorem zc_219 : zCode zmd_219 ∈ zTg := zw_5_113
theorem zp_219 : plainFor zmd_219.1 = true := by decide +kernel
theorem zd_219 : zdsc zmd_219.1 2 := ⟨by decide, by decide, by decide +kernel⟩
theorem zc_220 : zCode zmd_220 ∈ zTg := zw_10_141
theorem zp_220 : plainFor zmd_220.1 = true := by decide +kernel
theorem zd_220 : zdsc zmd_220.1 2 := ⟨by decide, by decide, by decide +kernel⟩
theorem zc_221 : zCode zmd_221 ∈ zTg := zw_5_123
theorem zp_221 : plainFor zmd_221.1 = true := by decide +kernel
theorem zd_221 : zdsc zmd_221.1 4 := ⟨by decide, by decide, by decide +kernel⟩
theorem zc_222 : zCode zmd_222 ∈ zTg := zw_5_127
theorem zp_222 : plainFor zmd_222.1 = true := by decide +kernel
theorem zd_222 : zdsc zmd_222.1 2 := ⟨by decide, by decide, by decide +kernel⟩
theorem zc_223 : zCode zmd_223 ∈ zTg := zw_10_151
theorem zp_223 : plainFor zmd_223.1 = true := by decide +kernel
theorem zd_223 : zdsc zmd_223.1 2 := ⟨by decide, by decide, by decide +kernel⟩
theorem zc_224 : zCode zmd_224 ∈ zTg := zw_5_140
theorem zp_224 : plainFor zmd_224.1 = true := by decide +kernel
theorem zd_224 : zdsc zmd_224.1 3 := ⟨by decide, by decide, by decide +kernel⟩
theorem zc_225 : zCode zmd_225 ∈ zTg := zw_5_144
theorem zp_225 : plainFor zmd_225.1 = true := by decide +kernel
theorem zd_225 : zdsc zmd_225.1 1 := ⟨by decide, by decide, by decide +kernel⟩
theorem zc_226 : zCode zmd_226 ∈ zTg := zw_10_162
theorem zp_226 : plainFor zmd_226.1 = true := by decide +kernel
theorem zd_226 : zdsc zmd_226.1 1 := ⟨by decide, by decide, by decide +kernel⟩
theorem zc_227 : zCode zmd_227 ∈ zTg := zw_5_156
theorem zp_227 : plainFor zmd_227.1 = true := by decide +kernel
theorem zd_227 : zdsc zmd_227.1 3 := ⟨by decide, by decide, by decide +kernel⟩
theorem zc_228 : zCode zmd_228 ∈ zTg := zw_5_160
theorem zp_228 : plainFor zmd_228.1 = true := by decide +kernel
theorem zd_228 : zdsc zmd_228.1 1 := ⟨by decide, by decide, by decide +kernel⟩
theorem zc_229 : zCode zmd_229 ∈ zTg := zw_5_165
theorem zp_229 : plainFor zmd_229.1 = true := by decide +kernel
theorem zd_229 : zdsc zmd_229.1 1 := ⟨by decide, by decide, by decide +kernel⟩
theorem zc_230 : zCode zmd_230 ∈ zTg := zw_10_166
theorem zp_230 : plainFor zmd_230.1 = true := by decide +kernel
theorem zd_230 : zdsc zmd_230.1 1 := ⟨by decide, by decide, by decide +kernel⟩
theorem zc_231 : zCode zmd_231 ∈ zTg := zw_10_170
theorem zp_231 : plainFor zmd_231.1 = true := by decide +kernel
theorem zd_231 : zdsc zmd_231.1 1 := ⟨by decide, by decide, by decide +kernel⟩
theorem zc_232 : zCode zmd_232 ∈ zTg := zw_5_168
theorem zp_232 : plainFor zmd_232.1 = true := by decide +kernel
theorem zd_232 : zdsc zmd_232.1 5 := ⟨by decide, by decide, by decide +kernel⟩
theorem zc_233 : zCode zmd_233 ∈ zTg := zw_5_173
theorem zp_233 : plainFor zmd_233.1 = true := by decide +kernel
theorem zd_233 : zdsc zmd_233.1 3 := ⟨by decide, by decide, by decide +kernel⟩
theorem zc_234 : zCode zmd_234 ∈ zTg := zw_10_174
theorem zp_234 : plainFor zmd_234.1 = true := by decide +kernel
theorem zd_234 : zdsc zmd_234.1 3 := ⟨by decide, by decide, by decide +kernel⟩
theorem zc_235 : zCode zmd_235 ∈ zTg := zw_5_205
theorem zp_235 : plainFor zmd_235.1 = true := by decide +kernel
theorem zd_235 : zdsc zmd_235.1 4 := ⟨by decide, by decide, by decide +kernel⟩
theorem zc_236 : zCode zmd_236 ∈ zTg := zw_5_209
theorem zp_236 : plainFor zmd_236.1 = true := by decide +kernel
theorem zd_236 : zdsc zmd_236.1 2 := ⟨by decide, by decide, by decide +kernel⟩
theorem zc_237 : zCode zmd_237 ∈ zTg := zw_10_178
theorem zp_237 : plainFor zmd_237.1 = true := by decide +kernel
theorem zd_237 : zdsc zmd_237.1 2 := ⟨by decide, by decide, by decide +kernel⟩
theorem zc_238 : zCode zmd_238 ∈ zTg := zw_5_223
theorem zp_238 : plainFor zmd_238.1 = true := by decide +kernel
theorem zd_238 : zdsc zmd_238.1 4 := ⟨by decide, by decide, by decide +kernel⟩
theorem zc_239 : zCode zmd_239 ∈ zTg := zw_5_227
theorem zp_239 : plainFor zmd_239.1 = true := by decide +kernel
theorem zd_239 : zdsc zmd_239.1 2 := ⟨by decide, by decide, by decide +kernel⟩
theorem zc_240 : zCode zmd_240 ∈ zTg := zw_5_232
theorem zp_240 : plainFor zmd_240.1 = true := by decide +kernel
theorem zd_240 : zdsc zmd_240.1 0 := ⟨by decide, by decide, by decide +kernel⟩
theorem zc_241 : zCode zmd_241 ∈ zTg := zw_5_239
theorem zp_241 : plainFor zmd_241.1 = true := by decide +kernel
theorem zd_241 : zdsc zmd_241.1 1 := ⟨by decide, by decide, by decide +kernel⟩
theorem zc_242 : zCode zmd_242 ∈ zTg := zw_10_182
theorem zp_242 : plainFor zmd_242.1 = true := by decide +kernel
theorem zd_242 : zdsc zmd_242.1 2 := ⟨by decide, by decide, by decide +kernel⟩
theorem zc_243 : zCode zmd_243 ∈ zTg := zw_10_186
theorem zp_243 : plainFor zmd_243.1 = true := by decide +kernel
theorem zd_243 : zdsc zmd_243.1 0 := ⟨by decide, by decide, by decide +kernel⟩
theorem zc_244 : zCode zmd_244 ∈ zTg := zw_2_167
theorem zp_244 : plainFor zmd_244.1 = true := by decide +kernel
theorem zd_244 : zdsc zmd_244.1 0 := ⟨by decide, by decide, by decide +kernel⟩
theorem zc_245 : zCode zmd_245 ∈ zTg := zw_10_190
theorem zp_245 : plainFor zmd_245.1 = true := by decide +kernel
theorem zd_245 : zdsc zmd_245.1 0 := ⟨by decide, by decide, by decide +kernel⟩
theorem zc_246 : zCode zmd_246 ∈ zTg := zw_6_7
theorem zp_246 : plainFor zmd_246.1 = true := by decide +kernel
theorem zd_246 : zdsc zmd_246.1 5 := ⟨by decide, by decide, by decide +kernel⟩
theorem zc_247 : zCode zmd_247 ∈ zTg := zw_6_11
theorem zp_247 : plainFor zmd_247.1 = true := by decide +kernel
theorem zd_247 : zdsc zmd_247.1 3 := ⟨by decide, by decide, by decide +kernel⟩
theorem zc_248 : zCode zmd_248 ∈ zTg := zw_10_194
theorem zp_248 : plainFor zmd_248.1 = true := by decide +kernel
theorem zd_248 : zdsc zmd_248.1 3 := ⟨by decide, by decide, by decide +kernel⟩
theorem zc_249 : zCode zmd_249 ∈ zTg := zw_6_14
theorem zp_249 : plainFor zmd_249.1 = true := by decide +kernel
theorem zd_249 : zdsc zmd_249.1 3 := ⟨by decide, by decide, by decide +kernel⟩
theorem zc_250 : zCode zmd_250 ∈ zTg := zw_6_18
theorem zp_250 : plainFor zmd_250.1 = true := by decide +kernel
theorem zd_250 : zdsc zmd_250.1 1 := ⟨by decide, by decide, by decide +kernel⟩
theorem zc_251 : zCode zmd_251 ∈ zTg := zw_10_198
theorem zp_251 : plainFor zmd_251.1 = true := by decide +kernel
theorem zd_251 : zdsc zmd_251.1 1 := ⟨by decide, by decide, by decide +kernel⟩
theorem zc_252 : zCode zmd_252 ∈ zTg := zw_6_36
theorem zp_252 : plainFor zmd_252.1 = true := by decide +kernel
theorem zd_252 : zdsc zmd_252.1 3 := ⟨by decide, by decide, by decide +kernel⟩
theorem zc_253 : zCode zmd_253 ∈ zTg := zw_6_40
theorem zp_253 : plainFor zmd_253.1 = true := by decide +kernel
theorem zd_253 : zdsc zmd_253.1 1 := ⟨by decide, by decide, by decide +kernel⟩
theorem zc_254 : zCode zmd_254 ∈ zTg := zw_10_202
theorem zp_254 : plainFor zmd_254.1 = true := by decide +kernel
theorem zd_254 : zdsc zmd_254.1 1 := ⟨by decide, by decide, by decide +kernel⟩
theorem zc_255 : zCode zmd_255 ∈ zTg := zw_2_171
theorem zp_255 : plainFor zmd_255.1 = true := by decide +kernel
theorem zd_255 : zdsc zmd_255.1 0 := ⟨by decide, by decide, by decide +kernel⟩
theorem zc_256 : zCode zmd_256 ∈ zTg := zw_10_206
theorem zp_256 : plainFor zmd_256.1 = true := by decide +kernel
theorem zd_256 : zdsc zmd_256.1 0 := ⟨by decide, by decide, by decide +kernel⟩
theorem zc_257 : zCode zmd_257 ∈ zTg := zw_2_199
theorem zp_257 : plainFor zmd_257.1 = true := by decide +kernel
theorem zd_257 : zdsc zmd_257.1 0 := ⟨by decide, by decide, by decide +kernel⟩
theorem zc_258 : zCode zmd_258 ∈ zTg := zw_2_203
theorem zp_258 : plainFor zmd_258.1 = true := by decide +kernel
theorem zd_258 : zdsc zmd_258.1 2 := ⟨by decide, by decide, by decide +kernel⟩
theorem zc_259 : zCode zmd_259 ∈ zTg := zw_10_211
theorem zp_259 : plainFor zmd_259.1 = true := by decide +kernel
theorem zd_259 : zdsc zmd_259.1 0 := ⟨by decide, by decide, by decide +kernel⟩
theorem zc_260 : zCode zmd_260 ∈ zTg := zw_10_221
theorem zp_260 : plainFor zmd_260.1 = true := by decide +kernel
theorem zd_260 : zdsc zmd_260.1 0 := ⟨by decide, by decide, by decide +kernel⟩
theorem zc_261 : zCode zmd_261 ∈ zTg := zw_10_226
theorem zp_261 : plainFor zmd_261.1 = true := by decide +kernel
theorem zd_261 : zdsc zmd_261.1 1 := ⟨by decide, by decide, by decide +kernel⟩
theorem zc_262 : zCode zmd_262 ∈ zTg := zw_11_10
theorem zp_262 : plainFor zmd_262.1 = true := by decide +kernel
theorem zd_262 : zdsc zmd_262.1 0 := ⟨by decide, by decide, by decide +kernel⟩
theorem zc_263 : zCode zmd_263 ∈ zTg := zw_6_44
theorem zp_263 : plainFor zmd_263.1 = true := by decide +kernel
theorem zd_263 : zdsc zmd_263.1 5 := ⟨by decide, by decide, by decide +kernel⟩
theorem zc_264 : zCode zmd_264 ∈ zTg := zw_6_48
theorem zp_264 : plainFor zmd_264.1 = true := by decide +kernel
theorem zd_264 : zdsc zmd_264.1 3 := ⟨by decide, by decide, by decide +kernel⟩
theorem zc_265 : zCode zmd_265 ∈ zTg := zw_11_38
theorem zp_265 : plainFor zmd_265.1 = true := by decide +kernel
theorem zd_265 : zdsc zmd_265.1 3 := ⟨by decide, by decide, by decide +kernel⟩
theorem zc_266 : zCode zmd_266 ∈ zTg := zw_6_52
theorem zp_266 : plainFor zmd_266.1 = true := by decide +kernel
theorem zd_266 : zdsc zmd_266.1 2 := ⟨by decide, by decide, by decide +kernel⟩
theorem zc_267 : zCode zmd_267 ∈ zTg := zw_5_131
theorem zp_267 : plainFor zmd_267.1 = true := by decide +kernel
theorem zd_267 : zdsc zmd_267.1 1 := ⟨by decide, by decide, by decide +kernel⟩
theorem zc_268 : zCode zmd_268 ∈ zTg := zw_6_57
theorem zp_268 : plainFor zmd_268.1 = true := by decide +kernel
theorem zd_268 : zdsc zmd_268.1 2 := ⟨by decide, by decide, by decide +kernel⟩
theorem zc_269 : zCode zmd_269 ∈ zTg := zw_6_33
theorem zp_269 : plainFor zmd_269.1 = true := by decide +kernel
theorem zd_269 : zdsc zmd_269.1 1 := ⟨by decide, by decide, by decide +kernel⟩
theorem zc_270 : zCode zmd_270 ∈ zTg := zw_5_19
theorem zp_270 : plainFor zmd_270.1 = true := by decide +kernel
theorem zd_270 : zdsc zmd_270.1 1 := ⟨by decide, by decide, by decide +kernel⟩
theorem zc_271 : zCode zmd_271 ∈ zTg := zw_2_222
theorem zp_271 : plainFor zmd_271.1 = true := by decide +kernel
theorem zd_271 : zdsc zmd_271.1 1 := ⟨by decide, by decide, by decide +kernel⟩
theorem zc_272 : zCode zmd_272 ∈ zTg := zw_4_133
theorem zp_272 : plainFor zmd_272.1 = true := by decide +kernel
theorem zd_272 : zdsc zmd_272.1 2 := ⟨by decide, by decide, by decide +kernel⟩
theorem zc_273 : zCode zmd_273 ∈ zTg := zw_6_66
theorem zp_273 : plainFor zmd_273.1 = true := by decide +kernel
theorem zd_273 : zdsc zmd_273.1 2 := ⟨by decide, by decide, by decide +kernel⟩
theorem zc_274 : zCode zmd_274 ∈ zTg := zw_4_56
theorem zp_274 : plainFor zmd_274.1 = true := by decide +kernel
theorem zd_274 : zdsc zmd_274.1 2 := ⟨by decide, by decide, by decide +kernel⟩
theorem zc_275 : zCode zmd_275 ∈ zTg := zw_4_27
theorem zp_275 : plainFor zmd_275.1 = true := by decide +kernel
theorem zd_275 : zdsc zmd_275.1 2 := ⟨by decide, by decide, by decide +kernel⟩
theorem zc_276 : zCode zmd_276 ∈ zTg := zw_6_76
theorem zp_276 : plainFor zmd_276.1 = true := by decide +kernel
theorem zd_276 : zdsc zmd_276.1 1 := ⟨by decide, by decide, by decide +kernel⟩
theorem zc_277 : zCode zmd_277 ∈ zTg := zw_6_81
theorem zp_277 : plainFor zmd_277.1 = true := by decide +kernel
theorem zd_277 : zdsc zmd_277.1 2 := ⟨by decide, by decide, by decide +kernel⟩
theorem zc_278 : zCode zmd_278 ∈ zTg := zw_6_86
theorem zp_278 : plainFor zmd_278.1 = true := by decide +kernel
theorem zd_278 : zdsc zmd_278.1 2 := ⟨by decide, by decide, by decide +kernel⟩
theorem zc_279 : zCode zmd_279 ∈ zTg := zw_6_91
theorem zp_279 : plainFor zmd_279.1 = true := by decide +kernel
theorem zd_279 : zdsc zmd_279.1 2 := ⟨by decide, by decide, by decide +kernel⟩
theorem zc_280 : zCode zmd_280 ∈ zTg := zw_6_95
theorem zp_280 : plainFor zmd_280.1 = true := by decide +kernel
theorem zd_280 : zdsc zmd_280.1 2 := ⟨by decide, by decide, by decide +kernel⟩
theorem zc_281 : zCode zmd_281 ∈ zTg := zw_6_100
theorem zp_281 : plainFor zmd_281.1 = true := by decide +kernel
theorem zd_281 : zdsc zmd_281.1 2 := ⟨by decide, by decide, by decide +kernel⟩
theorem zc_282 : zCode zmd_282 ∈ zTg := zw_6_104
theorem zp_282 : plainFor zmd_282.1 = true := by decide +kernel
theorem zd_282 : zdsc zmd_282.1 2 := ⟨by decide, by decide, by decide +kernel⟩
theorem zc_283 : zCode zmd_283 ∈ zTg := zw_4_207
theorem zp_283 : plainFor zmd_283.1 = true := by decide +kernel
theorem zd_283 : zdsc zmd_283.1 1 := ⟨by decide, by decide, by decide +kernel⟩
theorem zc_284 : zCode zmd_284 ∈ zTg := zw_6_110
theorem zp_284 : plainFor zmd_284.1 = true := by decide +kernel
theorem zd_284 : zdsc zmd_284.1 1 := ⟨by decide, by decide, by decide +kernel⟩
theorem zc_285 : zCode zmd_285 ∈ zTg := zw_6_114
theorem zp_285 : plainFor zmd_285.1 = true := by decide +kernel
theorem zd_285 : zdsc zmd_285.1 2 := ⟨by decide, by decide, by decide +kernel⟩
theorem zc_286 : zCode zmd_286 ∈ zTg := zw_4_19
theorem zp_286 : plainFor zmd_286.1 = true := by decide +kernel
theorem zd_286 : zdsc zmd_286.1 3 := ⟨by decide, by decide, by decide +kernel⟩
theorem zc_287 : zCode zmd_287 ∈ zTg := zw_6_121
theorem zp_287 : plainFor zmd_287.1 = true := by decide +kernel
theorem zd_287 : zdsc zmd_287.1 2 := ⟨by decide, by decide, by decide +kernel⟩
theorem zc_288 : zCode zmd_288 ∈ zTg := zw_6_125
theorem zp_288 : plainFor zmd_288.1 = true := by decide +kernel
theorem zd_288 : zdsc zmd_288.1 2 := ⟨by decide, by decide, by decide +kernel⟩
theorem zc_289 : zCode zmd_289 ∈ zTg := zw_4_38
theorem zp_289 : plainFor zmd_289.1 = true := by decide +kernel
theorem zd_289 : zdsc zmd_289.1 1 := ⟨by decide, by decide, by decide +kernel⟩
theorem zc_290 : zCode zmd_290 ∈ zTg := zw_4_43
theorem zp_290 : plainFor zmd_290.1 = true := by decide +kernel
theorem zd_290 : zdsc zmd_290.1 2 := ⟨by decide, by decide, by decide +kernel⟩
theorem zc_291 : zCode zmd_291 ∈ zTg := zw_5_62
theorem zp_291 : plainFor zmd_291.1 = true := by decide +kernel
theorem zd_291 : zdsc zmd_291.1 0 := ⟨by decide, by decide, by decide +kernel⟩
theorem zc_292 : zCode zmd_292 ∈ zTg := zw_5_95
theorem zp_292 : plainFor zmd_292.1 = true := by decide +kernel
theorem zd_292 : zdsc zmd_292.1 2 := ⟨by decide, by decide, by decide +kernel⟩
theorem zc_293 : zCode zmd_293 ∈ zTg := zw_6_133
theorem zp_293 : plainFor zmd_293.1 = true := by decide +kernel
theorem zd_293 : zdsc zmd_293.1 3 := ⟨by decide, by decide, by decide +kernel⟩
theorem zc_294 : zCode zmd_294 ∈ zTg := zw_6_142
theorem zp_294 : plainFor zmd_294.1 = true := by decide +kernel
theorem zd_294 : zdsc zmd_294.1 0 := ⟨by decide, by decide, by decide +kernel⟩
theorem zc_295 : zCode zmd_295 ∈ zTg := zw_3_184
theorem zp_295 : plainFor zmd_295.1 = true := by decide +kernel
theorem zd_295 : zdsc zmd_295.1 0 := ⟨by decide, by decide, by decide +kernel⟩
theorem zc_296 : zCode zmd_296 ∈ zTg := zw_8_26
theorem zp_296 : plainFor zmd_296.1 = true := by decide +kernel
theorem zd_296 : zdsc zmd_296.1 1 := ⟨by decide, by decide, by decide +kernel⟩
theorem zth_201_205_0 : zThw "Residueworks" 201 205 0 := ⟨zw_3_73, zw_1_24, zThi (by decide +kernel), by decide +kernel, by decide +kernel, by decide +kernel⟩
theorem zth_121_125_1 : zThw "Residueworks" 121 125 1 := ⟨zw_3_158, zw_1_29, zThi (by decide +kernel), by decide +kernel, by decide +kernel, by decide +kernel⟩
theorem zth_128_132_2 : zThw "Residueworks" 128 132 2 := ⟨zw_3_214, zw_1_33, zThi (by decide +kernel), by decide +kernel, by decide +kernel, by decide +kernel⟩
theorem zu_X0 : ∀ w ∈ u_ws RX0 TX0 12, w ∈ zTg := List.forall_mem_cons.mpr ⟨zw_2_15, List.forall_mem_cons.mpr ⟨zw_2_17, List.forall_mem_cons.mpr ⟨zw_2_19, List.forall_mem_cons.mpr ⟨zw_2_21, List.forall_mem_cons.mpr ⟨zw_2_23, List.forall_mem_cons.mpr ⟨zw_2_25, List.forall_mem_cons.mpr ⟨zw_2_27, List.forall_mem_cons.mpr ⟨zw_2_29, List.forall_mem_cons.mpr ⟨zw_2_31, List.forall_mem_cons.mpr ⟨zw_2_33, List.forall_mem_cons.mpr ⟨zw_2_35, List.forall_mem_cons.mpr ⟨zw_2_37, fun _ h => absurd h List.not_mem_nil⟩⟩⟩⟩⟩⟩⟩⟩⟩⟩⟩⟩
def zfv_X0 : List Value := [.null, .null, .int 0, .null, .null, .null, .null, .null, .null, .null, .null, .null]
theorem zfs_X0 : ∀ (E : zen) (ad : zam), zall E ad [5, 5, 0, 5, 5, 5, 5, 5, 5, 5, 5, 5] zfv_X0 := fun _ _ => zall.cons ((zr5 (v := 5) rfl _).mpr rfl) (zall.cons ((zr5 (v := 5) rfl _).mpr rfl) (zall.cons (zn0' (a := 0) (by decide)) (zall.cons ((zr5 (v := 5) rfl _).mpr rfl) (zall.cons ((zr5 (v := 5) rfl _).mpr rfl) (zall.cons ((zr5 (v := 5) rfl _).mpr rfl) (zall.cons ((zr5 (v := 5) rfl _).mpr rfl) (zall.cons ((zr5 (v := 5) rfl _).mpr rfl) (zall.cons ((zr5 (v := 5) rfl _).mpr rfl) (zall.cons ((zr5 (v := 5) rfl _).mpr rfl) (zall.cons ((zr5 (v := 5) rfl _).mpr rfl) (zall.cons ((zr5 (v := 5) rfl _).mpr rfl) zall.nil)))))))))))
theorem zdf_X0 : ∀ j, j < 12 → defaultValue (tyX0 j) = vp_V zfv_X0 j := by decide +kernel
theorem zu_X1 : ∀ w ∈ u_ws RX1 TX1 3, w ∈ zTg := List.forall_mem_cons.mpr ⟨zw_1_134, List.forall_mem_cons.mpr ⟨zw_1_136, List.forall_mem_cons.mpr ⟨zw_1_138, fun _ h => absurd h List.not_mem_nil⟩⟩⟩
def zfv_X1 : List Value := [.null, .null, .null]
theorem zfs_X1 : ∀ (E : zen) (ad : zam), zall E ad [5, 5, 5] zfv_X1 := fun _ _ => zall.cons ((zr5 (v := 5) rfl _).mpr rfl) (zall.cons ((zr5 (v := 5) rfl _).mpr rfl) (zall.cons ((zr5 (v := 5) rfl _).mpr rfl) zall.nil))
theorem zdf_X1 : ∀ j, j < 3 → defaultValue (tyX1 j) = vp_V zfv_X1 j := by decide +kernel
theorem zu_X2 : ∀ w ∈ u_ws RX2 TX2 11, w ∈ zTg := List.forall_mem_cons.mpr ⟨zw_1_171, List.forall_mem_cons.mpr ⟨zw_1_173, List.forall_mem_cons.mpr ⟨zw_1_175, List.forall_mem_cons.mpr ⟨zw_1_177, List.forall_mem_cons.mpr ⟨zw_1_179, List.forall_mem_cons.mpr ⟨zw_1_181, List.forall_mem_cons.mpr ⟨zw_1_183, List.forall_mem_cons.mpr ⟨zw_1_185, List.forall_mem_cons.mpr ⟨zw_1_187, List.forall_mem_cons.mpr ⟨zw_1_189, List.forall_mem_cons.mpr ⟨zw_1_191, fun _ h => absurd h List.not_mem_nil⟩⟩⟩⟩⟩⟩⟩⟩⟩⟩⟩
def zfv_X2 : List Value := [.null, .null, .null, .null, .null, .null, .null, .null, .null, .null, .null]
theorem zfs_X2 : ∀ (E : zen) (ad : zam), zall E ad [5, 5, 5, 5, 5, 5, 5, 5, 5, 5, 5] zfv_X2 := fun _ _ => zall.cons ((zr5 (v := 5) rfl _).mpr rfl) (zall.cons ((zr5 (v := 5) rfl _).mpr rfl) (zall.cons ((zr5 (v := 5) rfl _).mpr rfl) (zall.cons ((zr5 (v := 5) rfl _).mpr rfl) (zall.cons ((zr5 (v := 5) rfl _).mpr rfl) (zall.cons ((zr5 (v := 5) rfl _).mpr rfl) (zall.cons ((zr5 (v := 5) rfl _).mpr rfl) (zall.cons ((zr5 (v := 5) rfl _).mpr rfl) (zall.cons ((zr5 (v := 5) rfl _).mpr rfl) (zall.cons ((zr5 (v := 5) rfl _).mpr rfl) (zall.cons ((zr5 (v := 5) rfl _).mpr rfl) zall.nil))))))))))
theorem zdf_X2 : ∀ j, j < 11 → defaultValue (tyX2 j) = vp_V zfv_X2 j := by decide +kernel
theorem zu_X3 : ∀ w ∈ u_ws RX3 TX3 6, w ∈ zTg := List.forall_mem_cons.mpr ⟨zw_1_212, List.forall_mem_cons.mpr ⟨zw_1_214, List.forall_mem_cons.mpr ⟨zw_1_216, List.forall_mem_cons.mpr ⟨zw_1_218, List.forall_mem_cons.mpr ⟨zw_1_220, List.forall_mem_cons.mpr ⟨zw_1_222, fun _ h => absurd h List.not_mem_nil⟩⟩⟩⟩⟩⟩
def zfv_X3 : List Value := [.null, .null, .null, .null, .null, .null]
theorem zfs_X3 : ∀ (E : zen) (ad : zam), zall E ad [5, 5, 5, 5, 5, 5] zfv_X3 := fun _ _ => zall.cons ((zr5 (v := 5) rfl _).mpr rfl) (zall.cons ((zr5 (v := 5) rfl _).mpr rfl) (zall.cons ((zr5 (v := 5) rfl _).mpr rfl) (zall.cons ((zr5 (v := 5) rfl _).mpr rfl) (zall.cons ((zr5 (v := 5) rfl _).mpr rfl) (zall.cons ((zr5 (v := 5) rfl _).mpr rfl) zall.nil)))))
theorem zdf_X3 : ∀ j, j < 6 → defaultValue (tyX3 j) = vp_V zfv_X3 j := by decide +kernel
theorem zu_X4 : ∀ w ∈ u_ws RX4 TX4 3, w ∈ zTg := List.forall_mem_cons.mpr ⟨zw_1_107, List.forall_mem_cons.mpr ⟨zw_1_109, List.forall_mem_cons.mpr ⟨zw_1_111, fun _ h => absurd h List.not_mem_nil⟩⟩⟩
def zfv_X4 : List Value := [.null, .null, .int 0]
theorem zfs_X4 : ∀ (E : zen) (ad : zam), zall E ad [5, 5, 0] zfv_X4 := fun _ _ => zall.cons ((zr5 (v := 5) rfl _).mpr rfl) (zall.cons ((zr5 (v := 5) rfl _).mpr rfl) (zall.cons (zn0' (a := 0) (by decide)) zall.nil))
theorem zdf_X4 : ∀ j, j < 3 → defaultValue (tyX4 j) = vp_V zfv_X4 j := by decide +kernel
theorem zu_X6 : ∀ w ∈ u_ws RX6 TX6 3, w ∈ zTg := List.forall_mem_cons.mpr ⟨zw_1_88, List.forall_mem_cons.mpr ⟨zw_1_90, List.forall_mem_cons.mpr ⟨zw_1_92, fun _ h => absurd h List.not_mem_nil⟩⟩⟩
def zfv_X6 : List Value := [.null, .null, .int 0]
theorem zfs_X6 : ∀ (E : zen) (ad : zam), zall E ad [5, 5, 0] zfv_X6 := fun _ _ => zall.cons ((zr5 (v := 5) rfl _).mpr rfl) (zall.cons ((zr5 (v := 5) rfl _).mpr rfl) (zall.cons (zn0' (a := 0) (by decide)) zall.nil))
theorem zdf_X6 : ∀ j, j < 3 → defaultValue (tyX6 j) = vp_V zfv_X6 j := by decide +kernel
theorem zu_X7 : ∀ w ∈ u_ws RX7 TX7 15, w ∈ zTg := List.forall_mem_cons.mpr ⟨zw_2_93, List.forall_mem_cons.mpr ⟨zw_2_95, List.forall_mem_cons.mpr ⟨zw_2_97, List.forall_mem_cons.mpr ⟨zw_2_99, List.forall_mem_cons.mpr ⟨zw_2_101, List.forall_mem_cons.mpr ⟨zw_2_103, List.forall_mem_cons.mpr ⟨zw_2_105, List.forall_mem_cons.mpr ⟨zw_2_107, List.forall_mem_cons.mpr ⟨zw_2_109, List.forall_mem_cons.mpr ⟨zw_2_111, List.forall_mem_cons.mpr ⟨zw_2_113, List.forall_mem_cons.mpr ⟨zw_2_115, List.forall_mem_cons.mpr ⟨zw_2_117, List.forall_mem_cons.mpr ⟨zw_2_119, List.forall_mem_cons.mpr ⟨zw_2_121, fun _ h => absurd h List.not_mem_nil⟩⟩⟩⟩⟩⟩⟩⟩⟩⟩⟩⟩⟩⟩⟩
def zfv_X7 : List Value := [.null, .null, .null, .null, .null, .null, .null, .null, .null, .null, .null, .null, .null, .null, .null]
theorem zfs_X7 : ∀ (E : zen) (ad : zam), zall E ad [5, 5, 5, 5, 5, 5, 5, 5, 5, 5, 5, 5, 5, 5, 5] zfv_X7 := fun _ _ => zall.cons ((zr5 (v := 5) rfl _).mpr rfl) (zall.cons ((zr5 (v := 5) rfl _).mpr rfl) (zall.cons ((zr5 (v := 5) rfl _).mpr rfl) (zall.cons ((zr5 (v := 5) rfl _).mpr rfl) (zall.cons ((zr5 (v := 5) rfl _).mpr rfl) (zall.cons ((zr5 (v := 5) rfl _).mpr rfl) (zall.cons ((zr5 (v := 5) rfl _).mpr rfl) (zall.cons ((zr5 (v := 5) rfl _).mpr rfl) (zall.cons ((zr5 (v := 5) rfl _).mpr rfl) (zall.cons ((zr5 (v := 5) rfl _).mpr rfl) (zall.cons ((zr5 (v := 5) rfl _).mpr rfl) (zall.cons ((zr5 (v := 5) rfl _).mpr rfl) (zall.cons ((zr5 (v := 5) rfl _).mpr rfl) (zall.cons ((zr5 (v := 5) rfl _).mpr rfl) (zall.cons ((zr5 (v := 5) rfl _).mpr rfl) zall.nil))))))))))))))
theorem zdf_X7 : ∀ j, j < 15 → defaultValue (tyX7 j) = vp_V zfv_X7 j := by decide +kernel
theorem zu_X8 : ∀ w ∈ u_ws RX8 TX8 3, w ∈ zTg := List.forall_mem_cons.mpr ⟨zw_1_75, List.forall_mem_cons.mpr ⟨zw_1_77, List.forall_mem_cons.mpr ⟨zw_1_79, fun _ h => absurd h List.not_mem_nil⟩⟩⟩
def zfv_X8 : List Value := [.null, .int 0, .int 0]
theorem zfs_X8 : ∀ (E : zen) (ad : zam), zall E ad [5, 0, 0] zfv_X8 := fun _ _ => zall.cons ((zr5 (v := 5) rfl _).mpr rfl) (zall.cons (zn0' (a := 0) (by decide)) (zall.cons (zn0' (a := 0) (by decide)) zall.nil))
theorem zdf_X8 : ∀ j, j < 3 → defaultValue (tyX8 j) = vp_V zfv_X8 j := by decide +kernel
theorem zu_X9 : ∀ w ∈ u_ws RX9 TX9 10, w ∈ zTg := List.forall_mem_cons.mpr ⟨zw_2_135, List.forall_mem_cons.mpr ⟨zw_2_137, List.forall_mem_cons.mpr ⟨zw_2_139, List.forall_mem_cons.mpr ⟨zw_2_141, List.forall_mem_cons.mpr ⟨zw_2_143, List.forall_mem_cons.mpr ⟨zw_2_145, List.forall_mem_cons.mpr ⟨zw_2_147, List.forall_mem_cons.mpr ⟨zw_2_149, List.forall_mem_cons.mpr ⟨zw_2_151, List.forall_mem_cons.mpr ⟨zw_2_153, fun _ h => absurd h List.not_mem_nil⟩⟩⟩⟩⟩⟩⟩⟩⟩⟩
def zfv_X9 : List Value := [.null, .null, .null, .null, .null, .null, .null, .null, .null, .null]
theorem zfs_X9 : ∀ (E : zen) (ad : zam), zall E ad [5, 5, 5, 5, 5, 5, 5, 5, 5, 5] zfv_X9 := fun _ _ => zall.cons ((zr5 (v := 5) rfl _).mpr rfl) (zall.cons ((zr5 (v := 5) rfl _).mpr rfl) (zall.cons ((zr5 (v := 5) rfl _).mpr rfl) (zall.cons ((zr5 (v := 5) rfl _).mpr rfl) (zall.cons ((zr5 (v := 5) rfl _).mpr rfl) (zall.cons ((zr5 (v := 5) rfl _).mpr rfl) (zall.cons ((zr5 (v := 5) rfl _).mpr rfl) (zall.cons ((zr5 (v := 5) rfl _).mpr rfl) (zall.cons ((zr5 (v := 5) rfl _).mpr rfl) (zall.cons ((zr5 (v := 5) rfl _).mpr rfl) zall.nil)))))))))
theorem zdf_X9 : ∀ j, j < 10 → defaultValue (tyX9 j) = vp_V zfv_X9 j := by decide +kernel
theorem zu_X10 : ∀ w ∈ u_ws RX10 TX10 2, w ∈ zTg := List.forall_mem_cons.mpr ⟨zw_7_42, List.forall_mem_cons.mpr ⟨zw_7_44, fun _ h => absurd h List.not_mem_nil⟩⟩
def zfv_X10 : List Value := [.int 0, .null]
theorem zfs_X10 : ∀ (E : zen) (ad : zam), zall E ad [0, 5] zfv_X10 := fun _ _ => zall.cons (zn0' (a := 0) (by decide)) (zall.cons ((zr5 (v := 5) rfl _).mpr rfl) zall.nil)
theorem zdf_X10 : ∀ j, j < 2 → defaultValue (tyX10 j) = vp_V zfv_X10 j := by decide +kernel
theorem zu_X11 : ∀ w ∈ u_ws RX11 TX11 6, w ∈ zTg := List.forall_mem_cons.mpr ⟨zw_7_53, List.forall_mem_cons.mpr ⟨zw_7_55, List.forall_mem_cons.mpr ⟨zw_7_57, List.forall_mem_cons.mpr ⟨zw_7_59, List.forall_mem_cons.mpr ⟨zw_7_61, List.forall_mem_cons.mpr ⟨zw_7_63, fun _ h => absurd h List.not_mem_nil⟩⟩⟩⟩⟩⟩
def zfv_X11 : List Value := [.null, .null, .null, .null, .null, .int 0]
theorem zfs_X11 : ∀ (E : zen) (ad : zam), zall E ad [5, 5, 5, 5, 5, 0] zfv_X11 := fun _ _ => zall.cons ((zr5 (v := 5) rfl _).mpr rfl) (zall.cons ((zr5 (v := 5) rfl _).mpr rfl) (zall.cons ((zr5 (v := 5) rfl _).mpr rfl) (zall.cons ((zr5 (v := 5) rfl _).mpr rfl) (zall.cons ((zr5 (v := 5) rfl _).mpr rfl) (zall.cons (zn0' (a := 0) (by decide)) zall.nil)))))
theorem zdf_X11 : ∀ j, j < 6 → defaultValue (tyX11 j) = vp_V zfv_X11 j := by decide +kernel
theorem zu_J4 : ∀ w ∈ u_ws RJ4 TJ4 4, w ∈ zTg := List.forall_mem_cons.mpr ⟨zw_6_224, List.forall_mem_cons.mpr ⟨zw_6_226, List.forall_mem_cons.mpr ⟨zw_6_228, List.forall_mem_cons.mpr ⟨zw_6_230, fun _ h => absurd h List.not_mem_nil⟩⟩⟩⟩
def zfv_J4 : List Value := [.null, .int 0, .int 0, .int 0]
theorem zfs_J4 : ∀ (E : zen) (ad : zam), zall E ad [5, 0, 0, 0] zfv_J4 := fun _ _ => zall.cons ((zr5 (v := 5) rfl _).mpr rfl) (zall.cons (zn0' (a := 0) (by decide)) (zall.cons (zn0' (a := 0) (by decide)) (zall.cons (zn0' (a := 0) (by decide)) zall.nil)))
theorem zdf_J4 : ∀ j, j < 4 → defaultValue (tyJ4 j) = vp_V zfv_J4 j := by decide +kernel
theorem zu_Jx4a65c : ∀ w ∈ u_ws RJx4a65c TJx4a65c 3, w ∈ zTg := List.forall_mem_cons.mpr ⟨zw_7_19, List.forall_mem_cons.mpr ⟨zw_7_15, List.forall_mem_cons.mpr ⟨zw_7_17, fun _ h => absurd h List.not_mem_nil⟩⟩⟩
def zfv_Jx4a65c : List Value := [.int 0, .null, .int 0]
theorem zfs_Jx4a65c : ∀ (E : zen) (ad : zam), zall E ad [0, 5, 0] zfv_Jx4a65c := fun _ _ => zall.cons (zn0' (a := 0) (by decide)) (zall.cons ((zr5 (v := 5) rfl _).mpr rfl) (zall.cons (zn0' (a := 0) (by decide)) zall.nil))
theorem zdf_Jx4a65c : ∀ j, j < 3 → defaultValue (tyJx4a65c j) = vp_V zfv_Jx4a65c j := by decide +kernel
theorem zu_Jx35411 : ∀ w ∈ u_ws RJx35411 TJx35411 4, w ∈ zTg := List.forall_mem_cons.mpr ⟨zw_10_232, List.forall_mem_cons.mpr ⟨zw_10_234, List.forall_mem_cons.mpr ⟨zw_10_236, List.forall_mem_cons.mpr ⟨zw_10_238, fun _ h => absurd h List.not_mem_nil⟩⟩⟩⟩
def zfv_Jx35411 : List Value := [.int 0, .int 0, .int 0, .null]
theorem zfs_Jx35411 : ∀ (E : zen) (ad : zam), zall E ad [0, 0, 0, 5] zfv_Jx35411 := fun _ _ => zall.cons (zn0' (a := 0) (by decide)) (zall.cons (zn0' (a := 0) (by decide)) (zall.cons (zn0' (a := 0) (by decide)) (zall.cons ((zr5 (v := 5) rfl _).mpr rfl) zall.nil)))
theorem zdf_Jx35411 : ∀ j, j < 4 → defaultValue (tyJx35411 j) = vp_V zfv_Jx35411 j := by decide +kernel
theorem zu_J0 : ∀ w ∈ u_ws RJ0 TJ0 2, w ∈ zTg := List.forall_mem_cons.mpr ⟨zw_3_61, List.forall_mem_cons.mpr ⟨zw_3_63, fun _ h => absurd h List.not_mem_nil⟩⟩
theorem zu_J6 : ∀ w ∈ u_ws RJ6 TJ6 1, w ∈ zTg := List.forall_mem_cons.mpr ⟨zw_9_230, fun _ h => absurd h List.not_mem_nil⟩
set_option maxRecDepth 20000 in
theorem zh_0 : zM 0 = some zmd_0 := rfl
set_option maxRecDepth 20000 in
theorem zh_1 : zM 1 = some zmd_1 := rfl
set_option maxRecDepth 20000 in
theorem zh_2 : zM 2 = some zmd_2 := rfl
set_option maxRecDepth 20000 in
theorem zh_3 : zM 3 = some zmd_3 := rfl
set_option maxRecDepth 20000 in
theorem zh_4 : zM 4 = some zmd_4 := rfl
set_option maxRecDepth 20000 in
theorem zh_5 : zM 5 = some zmd_5 := rfl
set_option maxRecDepth 20000 in
theorem zh_6 : zM 6 = some zmd_6 := rfl
set_option maxRecDepth 20000 in
theorem zh_7 : zM 7 = some zmd_7 := rfl
set_option maxRecDepth 20000 in
theorem zh_8 : zM 8 = some zmd_8 := rfl
set_option maxRecDepth 20000 in
theorem zh_9 : zM 9 = some zmd_9 := rfl
set_option maxRecDepth 20000 in
theorem zh_10 : zM 10 = some zmd_10 := rfl
set_option maxRecDepth 20000 in
theorem zh_11 : zM 11 = some zmd_11 := rfl
set_option maxRecDepth 20000 in
theorem zh_12 : zM 12 = some zmd_12 := rfl
set_option maxRecDepth 20000 in
theorem zh_13 : zM 13 = some zmd_13 := rfl
set_option maxRecDepth 20000 in
theorem zh_14 : zM 14 = some zmd_14 := rfl
set_option maxRecDepth 20000 in
theorem zh_15 : zM 15 = some zmd_15 := rfl
set_option maxRecDepth 20000 in
theorem zh_16 : zM 16 = some zmd_16 := rfl
set_option maxRecDepth 20000 in
theorem zh_17 : zM 17 = some zmd_17 := rfl
set_option maxRecDepth 20000 in
theorem zh_18 : zM 18 = some zmd_18 := rfl
set_option maxRecDepth 20000 in
theorem zh_19 : zM 19 = some zmd_19 := rfl
set_option maxRecDepth 20000 in
theorem zh_20 : zM 20 = some zmd_20 := rfl
set_option maxRecDepth 20000 in
theorem zh_21 : zM 21 = some zmd_21 := rfl
set_option maxRecDepth 20000 in
theorem zh_22 : zM 22 = some zmd_22 := rfl
set_option maxRecDepth 20000 in
theorem zh_23 : zM 23 = some zmd_23 := rfl
set_option maxRecDepth 20000 in
theorem zh_24 : zM 24 = some zmd_24 := rfl
set_option maxRecDepth 20000 in
theorem zh_25 : zM 25 = some zmd_25 := rfl
set_option maxRecDepth 20000 in
theorem zh_26 : zM 26 = some zmd_26 := rfl
set_option maxRecDepth 20000 in
theorem zh_27 : zM 27 = some zmd_27 := rfl
set_option maxRecDepth 20000 in
theorem zh_28 : zM 28 = some zmd_28 := rfl
set_option maxRecDepth 20000 in
theorem zh_29 : zM 29 = some zmd_29 := rfl
set_option maxRecDepth 20000 in
theorem zh_30 : zM 30 = some zmd_30 := rfl
set_option maxRecDepth 20000 in
theorem zh_31 : zM 31 = some zmd_31 := rfl
set_option maxRecDepth 20000 in
theorem zh_32 : zM 32 = some zmd_32 := rfl
set_option maxRecDepth 20000 in
theorem zh_33 : zM 33 = some zmd_33 := rfl
set_option maxRecDepth 20000 in
theorem zh_34 : zM 34 = some zmd_34 := rfl
set_option maxRecDepth 20000 in
theorem zh_35 : zM 35 = some zmd_35 := rfl
set_option maxRecDepth 20000 in
theorem zh_36 : zM 36 = some zmd_36 := rfl
set_option maxRecDepth 20000 in
theorem zh_37 : zM 37 = some zmd_37 := rfl
set_option maxRecDepth 20000 in
theorem zh_38 : zM 38 = some zmd_38 := rfl
set_option maxRecDepth 20000 in
theorem zh_39 : zM 39 = some zmd_39 := rfl
set_option maxRecDepth 20000 in
theorem zh_40 : zM 40 = some zmd_40 := rfl
set_option maxRecDepth 20000 in
theorem zh_41 : zM 41 = some zmd_41 := rfl
set_option maxRecDepth 20000 in
theorem zh_42 : zM 42 = some zmd_42 := rfl
set_option maxRecDepth 20000 in
theorem zh_43 : zM 43 = some zmd_43 := rfl
set_option maxRecDepth 20000 in
theorem zh_44 : zM 44 = some zmd_44 := rfl
set_option maxRecDepth 20000 in
theorem zh_45 : zM 45 = some zmd_45 := rfl
set_option maxRecDepth 20000 in
theorem zh_46 : zM 46 = some zmd_46 := rfl
set_option maxRecDepth 20000 in
theorem zh_47 : zM 47 = some zmd_47 := rfl
set_option maxRecDepth 20000 in
theorem zh_48 : zM 48 = some zmd_48 := rfl
set_option maxRecDepth 20000 in
theorem zh_49 : zM 49 = some zmd_49 := rfl
set_option maxRecDepth 20000 in
theorem zh_50 : zM 50 = some zmd_50 := rfl
set_option maxRecDepth 20000 in
theorem zh_51 : zM 51 = some zmd_51 := rfl
set_option maxRecDepth 20000 in
theorem zh_52 : zM 52 = some zmd_52 := rfl
set_option maxRecDepth 20000 in
theorem zh_53 : zM 53 = some zmd_53 := rfl
set_option maxRecDepth 20000 in
theorem zh_54 : zM 54 = some zmd_54 := rfl
set_option maxRecDepth 20000 in
theorem zh_55 : zM 55 = some zmd_55 := rfl
set_option maxRecDepth 20000 in
theorem zh_56 : zM 56 = some zmd_56 := rfl
set_option maxRecDepth 20000 in
theorem zh_57 : zM 57 = some zmd_57 := rfl
set_option maxRecDepth 20000 in
theorem zh_58 : zM 58 = some zmd_58 := rfl
set_option maxRecDepth 20000 in
theorem zh_59 : zM 59 = some zmd_59 := rfl
set_option maxRecDepth 20000 in
theorem zh_60 : zM 60 = some zmd_60 := rfl
set_option maxRecDepth 20000 in
theorem zh_61 : zM 61 = some zmd_61 := rfl
set_option maxRecDepth 20000 in
theorem zh_62 : zM 62 = some zmd_62 := rfl
set_option maxRecDepth 20000 in
theorem zh_63 : zM 63 = some zmd_63 := rfl
set_option maxRecDepth 20000 in
theorem zh_64 : zM 64 = some zmd_64 := rfl
set_option maxRecDepth 20000 in
theorem zh_65 : zM 65 = some zmd_65 := rfl
set_option maxRecDepth 20000 in
theorem zh_66 : zM 66 = some zmd_66 := rfl
set_option maxRecDepth 20000 in
theorem zh_67 : zM 67 = some zmd_67 := rfl
set_option maxRecDepth 20000 in
theorem zh_68 : zM 68 = some zmd_68 := rfl
set_option maxRecDepth 20000 in
theorem zh_69 : zM 69 = some zmd_69 := rfl
set_option maxRecDepth 20000 in
theorem zh_70 : zM 70 = some zmd_70 := rfl
set_option maxRecDepth 20000 in
theorem zh_71 : zM 71 = some zmd_71 := rfl
set_option maxRecDepth 20000 in
theorem zh_72 : zM 72 = some zmd_72 := rfl
set_option maxRecDepth 20000 in
theorem zh_73 : zM 73 = some zmd_73 := rfl
set_option maxRecDepth 20000 in
theorem zh_74 : zM 74 = some zmd_74 := rfl
set_option maxRecDepth 20000 in
theorem zh_75 : zM 75 = some zmd_75 := rfl
set_option maxRecDepth 20000 in
theorem zh_76 : zM 76 = some zmd_76 := rfl
set_option maxRecDepth 20000 in
theorem zh_77 : zM 77 = some zmd_77 := rfl
set_option maxRecDepth 20000 in
theorem zh_78 : zM 78 = some zmd_78 := rfl
set_option maxRecDepth 20000 in
theorem zh_79 : zM 79 = some zmd_79 := rfl
set_option maxRecDepth 20000 in
theorem zh_80 : zM 80 = some zmd_80 := rfl
set_option maxRecDepth 20000 in
theorem zh_81 : zM 81 = some zmd_81 := rfl
set_option maxRecDepth 20000 in
theorem zh_82 : zM 82 = some zmd_82 := rfl
set_option maxRecDepth 20000 in
theorem zh_83 : zM 83 = some zmd_83 := rfl
set_option maxRecDepth 20000 in
theorem zh_84 : zM 84 = some zmd_84 := rfl
set_option maxRecDepth 20000 in
theorem zh_85 : zM 85 = some zmd_85 := rfl
set_option maxRecDepth 20000 in
theorem zh_86 : zM 86 = some zmd_86 := rfl
set_option maxRecDepth 20000 in
theorem zh_87 : zM 87 = some zmd_87 := rfl
set_option maxRecDepth 20000 in
theorem zh_88 : zM 88 = some zmd_88 := rfl
set_option maxRecDepth 20000 in
theorem zh_89 : zM 89 = some zmd_89 := rfl
set_option maxRecDepth 20000 in
theorem zh_90 : zM 90 = some zmd_90 := rfl
set_option maxRecDepth 20000 in
theorem zh_91 : zM 91 = some zmd_91 := rfl
set_option maxRecDepth 20000 in
theorem zh_92 : zM 92 = some zmd_92 := rfl
set_option maxRecDepth 20000 in
theorem zh_93 : zM 93 = some zmd_93 := rfl
set_option maxRecDepth 20000 in
theorem zh_94 : zM 94 = some zmd_94 := rfl
set_option maxRecDepth 20000 in
theorem zh_95 : zM 95 = some zmd_95 := rfl
set_option maxRecDepth 20000 in
theorem zh_96 : zM 96 = some zmd_96 := rfl
set_option maxRecDepth 20000 in
theorem zh_97 : zM 97 = some zmd_97 := rfl
set_option maxRecDepth 20000 in
theorem zh_98 : zM 98 = some zmd_98 := rfl
set_option maxRecDepth 20000 in
theorem zh_99 : zM 99 = some zmd_99 := rfl
set_option maxRecDepth 20000 in
theorem zh_100 : zM 100 = some zmd_100 := rfl
set_option maxRecDepth 20000 in
theorem zh_101 : zM 101 = some zmd_101 := rfl
set_option maxRecDepth 20000 in
theorem zh_102 : zM 102 = some zmd_102 := rfl
set_option maxRecDepth 20000 in
theorem zh_103 : zM 103 = some zmd_103 := rfl
set_option maxRecDepth 20000 in
theorem zh_104 : zM 104 = some zmd_104 := rfl
set_option maxRecDepth 20000 in
theorem zh_105 : zM 105 = some zmd_105 := rfl
set_option maxRecDepth 20000 in
theorem zh_106 : zM 106 = some zmd_106 := rfl
set_option maxRecDepth 20000 in
theorem zh_107 : zM 107 = some zmd_107 := rfl
set_option maxRecDepth 20000 in
theorem zh_108 : zM 108 = some zmd_108 := rfl
set_option maxRecDepth 20000 in
theorem zh_109 : zM 109 = some zmd_109 := rfl
set_option maxRecDepth 20000 in
theorem zh_110 : zM 110 = some zmd_110 := rfl
set_option maxRecDepth 20000 in
theorem zh_111 : zM 111 = some zmd_111 := rfl
set_option maxRecDepth 20000 in
theorem zh_112 : zM 112 = some zmd_112 := rfl
set_option maxRecDepth 20000 in
theorem zh_113 : zM 113 = some zmd_113 := rfl
set_option maxRecDepth 20000 in
theorem zh_114 : zM 114 = some zmd_114 := rfl
set_option maxRecDepth 20000 in
theorem zh_115 : zM 115 = some zmd_115 := rfl
set_option maxRecDepth 20000 in
theorem zh_116 : zM 116 = some zmd_116 := rfl
set_option maxRecDepth 20000 in
theorem zh_117 : zM 117 = some zmd_117 := rfl
set_option maxRecDepth 20000 in
theorem zh_118 : zM 118 = some zmd_118 := rfl
set_option maxRecDepth 20000 in
theorem zh_119 : zM 119 = some zmd_119 := rfl
set_option maxRecDepth 20000 in
theorem zh_120 : zM 120 = some zmd_120 := rfl
set_option maxRecDepth 20000 in
theorem zh_121 : zM 121 = some zmd_121 := rfl
set_option maxRecDepth 20000 in
theorem zh_122 : zM 122 = some zmd_122 := rfl
set_option maxRecDepth 20000 in
theorem zh_123 : zM 123 = some zmd_123 := rfl
set_option maxRecDepth 20000 in
theorem zh_124 : zM 124 = some zmd_124 := rfl
set_option maxRecDepth 20000 in
theorem zh_125 : zM 125 = some zmd_125 := rfl
set_option maxRecDepth 20000 in
theorem zh_126 : zM 126 = some zmd_126 := rfl
set_option maxRecDepth 20000 in
theorem zh_127 : zM 127 = some zmd_127 := rfl
set_option maxRecDepth 20000 in
theorem zh_128 : zM 128 = some zmd_128 := rfl
set_option maxRecDepth 20000 in
theorem zh_129 : zM 129 = some zmd_129 := rfl
set_option maxRecDepth 20000 in
theorem zh_130 : zM 130 = some zmd_130 := rfl
set_option maxRecDepth 20000 in
theorem zh_131 : zM 131 = some zmd_131 := rfl
set_option maxRecDepth 20000 in
theorem zh_132 : zM 132 = some zmd_132 := rfl
set_option maxRecDepth 20000 in
theorem zh_133 : zM 133 = some zmd_133 := rfl
set_option maxRecDepth 20000 in
theorem zh_134 : zM 134 = some zmd_134 := rfl
set_option maxRecDepth 20000 in
theorem zh_135 : zM 135 = some zmd_135 := rfl
set_option maxRecDepth 20000 in
theorem zh_136 : zM 136 = some zmd_136 := rfl
set_option maxRecDepth 20000 in
theorem zh_137 : zM 137 = some zmd_137 := rfl
set_option maxRecDepth 20000 in
theorem zh_138 : zM 138 = some zmd_138 := rfl
set_option maxRecDepth 20000 in
theorem zh_139 : zM 139 = some zmd_139 := rfl
set_option maxRecDepth 20000 in
theorem zh_140 : zM 140 = some zmd_140 := rfl
set_option maxRecDepth 20000 in
theorem zh_141 : zM 141 = some zmd_141 := rfl
set_option maxRecDepth 20000 in
theorem zh_142 : zM 142 = some zmd_142 := rfl
set_option maxRecDepth 20000 in
theorem zh_143 : zM 143 = some zmd_143 := rfl
set_option maxRecDepth 20000 in
theorem zh_144 : zM 144 = some zmd_144 := rfl
set_option maxRecDepth 20000 in
theorem zh_145 : zM 145 = some zmd_145 := rfl
set_option maxRecDepth 20000 in
theorem zh_146 : zM 146 = some zmd_146 := rfl
set_option maxRecDepth 20000 in
theorem zh_147 : zM 147 = some zmd_147 := rfl
set_option maxRecDepth 20000 in
theorem zh_148 : zM 148 = some zmd_148 := rfl
set_option maxRecDepth 20000 in
theorem zh_149 : zM 149 = some zmd_149 := rfl
set_option maxRecDepth 20000 in
theorem zh_150 : zM 150 = some zmd_150 := rfl
set_option maxRecDepth 20000 in
theorem zh_151 : zM 151 = some zmd_151 := rfl
set_option maxRecDepth 20000 in
theorem zh_152 : zM 152 = some zmd_152 := rfl
set_option maxRecDepth 20000 in
theorem zh_153 : zM 153 = some zmd_153 := rfl
set_option maxRecDepth 20000 in
theorem zh_154 : zM 154 = some zmd_154 := rfl
set_option maxRecDepth 20000 in
theorem zh_155 : zM 155 = some zmd_155 := rfl
set_option maxRecDepth 20000 in
theorem zh_156 : zM 156 = some zmd_156 := rfl
set_option maxRecDepth 20000 in
theorem zh_157 : zM 157 = some zmd_157 := rfl
set_option maxRecDepth 20000 in
theorem zh_158 : zM 158 = some zmd_158 := rfl
set_option maxRecDepth 20000 in
theorem zh_159 : zM 159 = some zmd_159 := rfl
set_option maxRecDepth 20000 in
theorem zh_160 : zM 160 = some zmd_160 := rfl
set_option maxRecDepth 20000 in
theorem zh_161 : zM 161 = some zmd_161 := rfl
set_option maxRecDepth 20000 in
theorem zh_162 : zM 162 = some zmd_162 := rfl
set_option maxRecDepth 20000 in
theorem zh_163 : zM 163 = some zmd_163 := rfl
set_option maxRecDepth 20000 in
theorem zh_164 : zM 164 = some zmd_164 := rfl
set_option maxRecDepth 20000 in
theorem zh_165 : zM 165 = some zmd_165 := rfl
set_option maxRecDepth 20000 in
theorem zh_166 : zM 166 = some zmd_166 := rfl
set_option maxRecDepth 20000 in
theorem zh_167 : zM 167 = some zmd_167 := rfl
set_option maxRecDepth 20000 in
theorem zh_168 : zM 168 = some zmd_168 := rfl
set_option maxRecDepth 20000 in
theorem zh_169 : zM 169 = some zmd_169 := rfl
set_option maxRecDepth 20000 in
theorem zh_170 : zM 170 = some zmd_170 := rfl
set_option maxRecDepth 20000 in
theorem zh_171 : zM 171 = some zmd_171 := rfl
set_option maxRecDepth 20000 in
theorem zh_172 : zM 172 = some zmd_172 := rfl
set_option maxRecDepth 20000 in
theorem zh_173 : zM 173 = some zmd_173 := rfl
set_option maxRecDepth 20000 in
theorem zh_174 : zM 174 = some zmd_174 := rfl
set_option maxRecDepth 20000 in
theorem zh_175 : zM 175 = some zmd_175 := rfl
set_option maxRecDepth 20000 in
theorem zh_176 : zM 176 = some zmd_176 := rfl
set_option maxRecDepth 20000 in
theorem zh_177 : zM 177 = some zmd_177 := rfl
set_option maxRecDepth 20000 in
theorem zh_178 : zM 178 = some zmd_178 := rfl
set_option maxRecDepth 20000 in
theorem zh_179 : zM 179 = some zmd_179 := rfl
set_option maxRecDepth 20000 in
theorem zh_180 : zM 180 = some zmd_180 := rfl
set_option maxRecDepth 20000 in
theorem zh_181 : zM 181 = some zmd_181 := rfl
set_option maxRecDepth 20000 in
theorem zh_182 : zM 182 = some zmd_182 := rfl
set_option maxRecDepth 20000 in
theorem zh_183 : zM 183 = some zmd_183 := rfl
set_option maxRecDepth 20000 in
theorem zh_184 : zM 184 = some zmd_184 := rfl
set_option maxRecDepth 20000 in
theorem zh_185 : zM 185 = some zmd_185 := rfl
set_option maxRecDepth 20000 in
theorem zh_186 : zM 186 = some zmd_186 := rfl
set_option maxRecDepth 20000 in
theorem zh_187 : zM 187 = some zmd_187 := rfl
set_option maxRecDepth 20000 in
theorem zh_188 : zM 188 = some zmd_188 := rfl
set_option maxRecDepth 20000 in
theorem zh_189 : zM 189 = some zmd_189 := rfl
set_option maxRecDepth 20000 in
theorem zh_190 : zM 190 = some zmd_190 := rfl
set_option maxRecDepth 20000 in
theorem zh_191 : zM 191 = some zmd_191 := rfl
set_option maxRecDepth 20000 in
theorem zh_192 : zM 192 = some zmd_192 := rfl
set_option maxRecDepth 20000 in
theorem zh_193 : zM 193 = some zmd_193 := rfl
set_option maxRecDepth 20000 in
theorem zh_194 : zM 194 = some zmd_194 := rfl
set_option maxRecDepth 20000 in
theorem zh_195 : zM 195 = some zmd_195 := rfl
set_option maxRecDepth 20000 in
theorem zh_196 : zM 196 = some zmd_196 := rfl
set_option maxRecDepth 20000 in
theorem zh_197 : zM 197 = some zmd_197 := rfl
set_option maxRecDepth 20000 in
theorem zh_198 : zM 198 = some zmd_198 := rfl
set_option maxRecDepth 20000 in
theorem zh_199 : zM 199 = some zmd_199 := rfl
set_option maxRecDepth 20000 in
theorem zh_200 : zM 200 = some zmd_200 := rfl
set_option maxRecDepth 20000 in
theorem zh_201 : zM 201 = some zmd_201 := rfl
set_option maxRecDepth 20000 in
theorem zh_202 : zM 202 = some zmd_202 := rfl
set_option maxRecDepth 20000 in
theorem zh_203 : zM 203 = some zmd_203 := rfl
set_option maxRecDepth 20000 in
theorem zh_204 : zM 204 = some zmd_204 := rfl
set_option maxRecDepth 20000 in
theorem zh_205 : zM 205 = some zmd_205 := rfl
set_option maxRecDepth 20000 in
theorem zh_206 : zM 206 = some zmd_206 := rfl
set_option maxRecDepth 20000 in
theorem zh_207 : zM 207 = some zmd_207 := rfl
set_option maxRecDepth 20000 in
theorem zh_208 : zM 208 = some zmd_208 := rfl
set_option maxRecDepth 20000 in
theorem zh_209 : zM 209 = some zmd_209 := rfl
set_option maxRecDepth 20000 in
theorem zh_210 : zM 210 = some zmd_210 := rfl
set_option maxRecDepth 20000 in
theorem zh_211 : zM 211 = some zmd_211 := rfl
set_option maxRecDepth 20000 in
theorem zh_212 : zM 212 = some zmd_212 := rfl
set_option maxRecDepth 20000 in
theorem zh_213 : zM 213 = some zmd_213 := rfl
set_option maxRecDepth 20000 in
theorem zh_214 : zM 214 = some zmd_214 := rfl
set_option maxRecDepth 20000 in
theorem zh_215 : zM 215 = some zmd_215 := rfl
set_option maxRecDepth 20000 in
theorem zh_216 : zM 216 = some zmd_216 := rfl
set_option maxRecDepth 20000 in
theorem zh_217 : zM 217 = some zmd_217 := rfl
set_option maxRecDepth 20000 in
theorem zh_218 : zM 218 = some zmd_218 := rfl
set_option maxRecDepth 20000 in
theorem zh_219 : zM 219 = some zmd_219 := rfl
set_option maxRecDepth 20000 in
theorem zh_220 : zM 220 = some zmd_220 := rfl
set_option maxRecDepth 20000 in
theorem zh_221 : zM 221 = some zmd_221 := rfl
set_option maxRecDepth 20000 in
theorem zh_222 : zM 222 = some zmd_222 := rfl
set_option maxRecDepth 20000 in
theorem zh_223 : zM 223 = some zmd_223 := rfl
set_option maxRecDepth 20000 in
theorem zh_224 : zM 224 = some zmd_224 := rfl
set_option maxRecDepth 20000 in
theorem zh_225 : zM 225 = some zmd_225 := rfl
set_option maxRecDepth 20000 in
theorem zh_226 : zM 226 = some zmd_226 := rfl
set_option maxRecDepth 20000 in
theorem zh_227 : zM 227 = some zmd_227 := rfl
set_option maxRecDepth 20000 in
theorem zh_228 : zM 228 = some zmd_228 := rfl
set_option maxRecDepth 20000 in
theorem zh_229 : zM 229 = some zmd_229 := rfl
set_option maxRecDepth 20000 in
theorem zh_230 : zM 230 = some zmd_230 := rfl
set_option maxRecDepth 20000 in
theorem zh_231 : zM 231 = some zmd_231 := rfl
set_option maxRecDepth 20000 in
theorem zh_232 : zM 232 = some zmd_232 := rfl
set_option maxRecDepth 20000 in
theorem zh_233 : zM 233 = some zmd_233 := rfl
set_option maxRecDepth 20000 in
theorem zh_234 : zM 234 = some zmd_234 := rfl
set_option maxRecDepth 20000 in
theorem zh_235 : zM 235 = some zmd_235 := rfl
set_option maxRecDepth 20000 in
theorem zh_236 : zM 236 = some zmd_236 := rfl
set_option maxRecDepth 20000 in
theorem zh_237 : zM 237 = some zmd_237 := rfl
set_option maxRecDepth 20000 in
theorem zh_238 : zM 238 = some zmd_238 := rfl
set_option maxRecDepth 20000 in
theorem zh_239 : zM 239 = some zmd_239 := rfl
set_option maxRecDepth 20000 in
theorem zh_240 : zM 240 = some zmd_240 := rfl
set_option maxRecDepth 20000 in
theorem zh_241 : zM 241 = some zmd_241 := rfl
set_option maxRecDepth 20000 in
theorem zh_242 : zM 242 = some zmd_242 := rfl
set_option maxRecDepth 20000 in
theorem zh_243 : zM 243 = some zmd_243 := rfl
set_option maxRecDepth 20000 in
theorem zh_244 : zM 244 = some zmd_244 := rfl
set_option maxRecDepth 20000 in
theorem zh_245 : zM 245 = some zmd_245 := rfl
set_option maxRecDepth 20000 in
theorem zh_246 : zM 246 = some zmd_246 := rfl
set_option maxRecDepth 20000 in
theorem zh_247 : zM 247 = some zmd_247 := rfl
set_option maxRecDepth 20000 in
theorem zh_248 : zM 248 = some zmd_248 := rfl
set_option maxRecDepth 20000 in
theorem zh_249 : zM 249 = some zmd_249 := rfl
set_option maxRecDepth 20000 in
theorem zh_250 : zM 250 = some zmd_250 := rfl
set_option maxRecDepth 20000 in
theorem zh_251 : zM 251 = some zmd_251 := rfl
set_option maxRecDepth 20000 in
theorem zh_252 : zM 252 = some zmd_252 := rfl
set_option maxRecDepth 20000 in
theorem zh_253 : zM 253 = some zmd_253 := rfl
set_option maxRecDepth 20000 in
theorem zh_254 : zM 254 = some zmd_254 := rfl
set_option maxRecDepth 20000 in
theorem zh_255 : zM 255 = some zmd_255 := rfl
set_option maxRecDepth 20000 in
theorem zh_256 : zM 256 = some zmd_256 := rfl
set_option maxRecDepth 20000 in
theorem zh_257 : zM 257 = some zmd_257 := rfl
set_option maxRecDepth 20000 in
theorem zh_258 : zM 258 = some zmd_258 := rfl
set_option maxRecDepth 20000 in
theorem zh_259 : zM 259 = some zmd_259 := rfl
set_option maxRecDepth 20000 in
theorem zh_260 : zM 260 = some zmd_260 := rfl
set_option maxRecDepth 20000 in
theorem zh_261 : zM 261 = some zmd_261 := rfl
set_option maxRecDepth 20000 in
theorem zh_262 : zM 262 = some zmd_262 := rfl
set_option maxRecDepth 20000 in
theorem zh_263 : zM 263 = some zmd_263 := rfl
set_option maxRecDepth 20000 in
theorem zh_264 : zM 264 = some zmd_264 := rfl
set_option maxRecDepth 20000 in
theorem zh_265 : zM 265 = some zmd_265 := rfl
set_option maxRecDepth 20000 in
theorem zh_266 : zM 266 = some zmd_266 := rfl
set_option maxRecDepth 20000 in
theorem zh_267 : zM 267 = some zmd_267 := rfl
set_option maxRecDepth 20000 in
theorem zh_268 : zM 268 = some zmd_268 := rfl
set_option maxRecDepth 20000 in
theorem zh_269 : zM 269 = some zmd_269 := rfl
set_option maxRecDepth 20000 in
theorem zh_270 : zM 270 = some zmd_270 := rfl
set_option maxRecDepth 20000 in
theorem zh_271 : zM 271 = some zmd_271 := rfl
set_option maxRecDepth 20000 in
theorem zh_272 : zM 272 = some zmd_272 := rfl
set_option maxRecDepth 20000 in
theorem zh_273 : zM 273 = some zmd_273 := rfl
set_option maxRecDepth 20000 in
theorem zh_274 : zM 274 = some zmd_274 := rfl
set_option maxRecDepth 20000 in
theorem zh_275 : zM 275 = some zmd_275 := rfl
set_option maxRecDepth 20000 in
theorem zh_276 : zM 276 = some zmd_276 := rfl
set_option maxRecDepth 20000 in
theorem zh_277 : zM 277 = some zmd_277 := rfl
set_option maxRecDepth 20000 in
theorem zh_278 : zM 278 = some zmd_278 := rfl
set_option maxRecDepth 20000 in
theorem zh_279 : zM 279 = some zmd_279 := rfl
set_option maxRecDepth 20000 in
theorem zh_280 : zM 280 = some zmd_280 := rfl
set_option maxRecDepth 20000 in
theorem zh_281 : zM 281 = some zmd_281 := rfl
set_option maxRecDepth 20000 in
theorem zh_282 : zM 282 = some zmd_282 := rfl
set_option maxRecDepth 20000 in
theorem zh_283 : zM 283 = some zmd_283 := rfl
set_option maxRecDepth 20000 in
theorem zh_284 : zM 284 = some zmd_284 := rfl
set_option maxRecDepth 20000 in
theorem zh_285 : zM 285 = some zmd_285 := rfl
set_option maxRecDepth 20000 in
theorem zh_286 : zM 286 = some zmd_286 := rfl
set_option maxRecDepth 20000 in
theorem zh_287 : zM 287 = some zmd_287 := rfl
set_option maxRecDepth 20000 in
theorem zh_288 : zM 288 = some zmd_288 := rfl
set_option maxRecDepth 20000 in
theorem zh_289 : zM 289 = some zmd_289 := rfl
set_option maxRecDepth 20000 in
theorem zh_290 : zM 290 = some zmd_290 := rfl
set_option maxRecDepth 20000 in
theorem zh_291 : zM 291 = some zmd_291 := rfl
set_option maxRecDepth 20000 in
theorem zh_292 : zM 292 = some zmd_292 := rfl
set_option maxRecDepth 20000 in
theorem zh_293 : zM 293 = some zmd_293 := rfl
set_option maxRecDepth 20000 in
theorem zh_294 : zM 294 = some zmd_294 := rfl
set_option maxRecDepth 20000 in
theorem zh_295 : zM 295 = some zmd_295 := rfl
set_option maxRecDepth 20000 in
theorem zh_296 : zM 296 = some zmd_296 := rfl
theorem zokE {m pc : Nat} {f g : zS} (h : f = g) (r : zOK zPre m pc g) : zOK zPre m pc f := by rw [h]; exact r
end Words
