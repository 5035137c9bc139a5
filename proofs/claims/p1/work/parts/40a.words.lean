section Words
theorem ztb {w : Cond} (h : w ∈ tables_1) : w ∈ lw_tbl := List.mem_append_right _ h
theorem ztc {w : Cond} (h : w ∈ tables_1) : w ∈ zXs ++ lw_tbl := List.mem_append_right _ (ztb h)
theorem zt_1 {w : Cond} {i : Nat} (h0 : tables_1_1[i]? = some w) (g : goodWord w = true) : w ∈ zTg := by
  have h := List.mem_of_getElem? h0
  exact List.mem_filter.mpr ⟨ztc (List.mem_append_left _ h), g⟩
theorem zn_1 {w : Cond} {i : Nat} (h0 : tables_1_1[i]? = some w) (g : zNw w = true) : w ∈ zTn := by
  have h := List.mem_of_getElem? h0
  exact List.mem_filter.mpr ⟨ztb (List.mem_append_left _ h), g⟩
theorem zt_2 {w : Cond} {i : Nat} (h0 : tables_1_2[i]? = some w) (g : goodWord w = true) : w ∈ zTg := by
  have h := List.mem_of_getElem? h0
  exact List.mem_filter.mpr ⟨ztc (List.mem_append_right _ (List.mem_append_left _ h)), g⟩
theorem zn_2 {w : Cond} {i : Nat} (h0 : tables_1_2[i]? = some w) (g : zNw w = true) : w ∈ zTn := by
  have h := List.mem_of_getElem? h0
  exact List.mem_filter.mpr ⟨ztb (List.mem_append_right _ (List.mem_append_left _ h)), g⟩
theorem zt_3 {w : Cond} {i : Nat} (h0 : tables_1_3[i]? = some w) (g : goodWord w = true) : w ∈ zTg := by
  have h := List.mem_of_getElem? h0
  exact List.mem_filter.mpr ⟨ztc (List.mem_append_right _ (List.mem_append_right _ (List.mem_append_left _ h))), g⟩
theorem zn_3 {w : Cond} {i : Nat} (h0 : tables_1_3[i]? = some w) (g : zNw w = true) : w ∈ zTn := by
  have h := List.mem_of_getElem? h0
  exact List.mem_filter.mpr ⟨ztb (List.mem_append_right _ (List.mem_append_right _ (List.mem_append_left _ h))), g⟩
theorem zt_4 {w : Cond} {i : Nat} (h0 : tables_1_4[i]? = some w) (g : goodWord w = true) : w ∈ zTg := by
  have h := List.mem_of_getElem? h0
  exact List.mem_filter.mpr ⟨ztc (List.mem_append_right _ (List.mem_append_right _ (List.mem_append_right _ (List.mem_append_left _ h)))), g⟩
theorem zn_4 {w : Cond} {i : Nat} (h0 : tables_1_4[i]? = some w) (g : zNw w = true) : w ∈ zTn := by
  have h := List.mem_of_getElem? h0
  exact List.mem_filter.mpr ⟨ztb (List.mem_append_right _ (List.mem_append_right _ (List.mem_append_right _ (List.mem_append_left _ h)))), g⟩
theorem zt_5 {w : Cond} {i : Nat} (h0 : tables_1_5[i]? = some w) (g : goodWord w = true) : w ∈ zTg := by
  have h := List.mem_of_getElem? h0
  exact List.mem_filter.mpr ⟨ztc (List.mem_append_right _ (List.mem_append_right _ (List.mem_append_right _ (List.mem_append_right _ (List.mem_append_left _ h))))), g⟩
theorem zn_5 {w : Cond} {i : Nat} (h0 : tables_1_5[i]? = some w) (g : zNw w = true) : w ∈ zTn := by
  have h := List.mem_of_getElem? h0
  exact List.mem_filter.mpr ⟨ztb (List.mem_append_right _ (List.mem_append_right _ (List.mem_append_right _ (List.mem_append_right _ (List.mem_append_left _ h))))), g⟩
theorem zt_6 {w : Cond} {i : Nat} (h0 : tables_1_6[i]? = some w) (g : goodWord w = true) : w ∈ zTg := by
  have h := List.mem_of_getElem? h0
  exact List.mem_filter.mpr ⟨ztc (List.mem_append_right _ (List.mem_append_right _ (List.mem_append_right _ (List.mem_append_right _ (List.mem_append_right _ (List.mem_append_left _ h)))))), g⟩
theorem zn_6 {w : Cond} {i : Nat} (h0 : tables_1_6[i]? = some w) (g : zNw w = true) : w ∈ zTn := by
  have h := List.mem_of_getElem? h0
  exact List.mem_filter.mpr ⟨ztb (List.mem_append_right _ (List.mem_append_right _ (List.mem_append_right _ (List.mem_append_right _ (List.mem_append_right _ (List.mem_append_left _ h)))))), g⟩
theorem zt_7 {w : Cond} {i : Nat} (h0 : tables_1_7[i]? = some w) (g : goodWord w = true) : w ∈ zTg := by
  have h := List.mem_of_getElem? h0
  exact List.mem_filter.mpr ⟨ztc (List.mem_append_right _ (List.mem_append_right _ (List.mem_append_right _ (List.mem_append_right _ (List.mem_append_right _ (List.mem_append_right _ (List.mem_append_left _ h))))))), g⟩
theorem zn_7 {w : Cond} {i : Nat} (h0 : tables_1_7[i]? = some w) (g : zNw w = true) : w ∈ zTn := by
  have h := List.mem_of_getElem? h0
  exact List.mem_filter.mpr ⟨ztb (List.mem_append_right _ (List.mem_append_right _ (List.mem_append_right _ (List.mem_append_right _ (List.mem_append_right _ (List.mem_append_right _ (List.mem_append_left _ h))))))), g⟩
theorem zt_8 {w : Cond} {i : Nat} (h0 : tables_1_8[i]? = some w) (g : goodWord w = true) : w ∈ zTg := by
  have h := List.mem_of_getElem? h0
  exact List.mem_filter.mpr ⟨ztc (List.mem_append_right _ (List.mem_append_right _ (List.mem_append_right _ (List.mem_append_right _ (List.mem_append_right _ (List.mem_append_right _ (List.mem_append_right _ (List.mem_append_left _ h)))))))), g⟩
theorem zn_8 {w : Cond} {i : Nat} (h0 : tables_1_8[i]? = some w) (g : zNw w = true) : w ∈ zTn := by
  have h := List.mem_of_getElem? h0
  exact List.mem_filter.mpr ⟨ztb (List.mem_append_right _ (List.mem_append_right _ (List.mem_append_right _ (List.mem_append_right _ (List.mem_append_right _ (List.mem_append_right _ (List.mem_append_right _ (List.mem_append_left _ h)))))))), g⟩
theorem zt_9 {w : Cond} {i : Nat} (h0 : tables_1_9[i]? = some w) (g : goodWord w = true) : w ∈ zTg := by
  have h := List.mem_of_getElem? h0
  exact List.mem_filter.mpr ⟨ztc (List.mem_append_right _ (List.mem_append_right _ (List.mem_append_right _ (List.mem_append_right _ (List.mem_append_right _ (List.mem_append_right _ (List.mem_append_right _ (List.mem_append_right _ (List.mem_append_left _ h))))))))), g⟩
theorem zn_9 {w : Cond} {i : Nat} (h0 : tables_1_9[i]? = some w) (g : zNw w = true) : w ∈ zTn := by
  have h := List.mem_of_getElem? h0
  exact List.mem_filter.mpr ⟨ztb (List.mem_append_right _ (List.mem_append_right _ (List.mem_append_right _ (List.mem_append_right _ (List.mem_append_right _ (List.mem_append_right _ (List.mem_append_right _ (List.mem_append_right _ (List.mem_append_left _ h))))))))), g⟩
theorem zt_10 {w : Cond} {i : Nat} (h0 : tables_1_10[i]? = some w) (g : goodWord w = true) : w ∈ zTg := by
  have h := List.mem_of_getElem? h0
  exact List.mem_filter.mpr ⟨ztc (List.mem_append_right _ (List.mem_append_right _ (List.mem_append_right _ (List.mem_append_right _ (List.mem_append_right _ (List.mem_append_right _ (List.mem_append_right _ (List.mem_append_right _ (List.mem_append_right _ (List.mem_append_left _ h)))))))))), g⟩
theorem zn_10 {w : Cond} {i : Nat} (h0 : tables_1_10[i]? = some w) (g : zNw w = true) : w ∈ zTn := by
  have h := List.mem_of_getElem? h0
  exact List.mem_filter.mpr ⟨ztb (List.mem_append_right _ (List.mem_append_right _ (List.mem_append_right _ (List.mem_append_right _ (List.mem_append_right _ (List.mem_append_right _ (List.mem_append_right _ (List.mem_append_right _ (List.mem_append_right _ (List.mem_append_left _ h)))))))))), g⟩
theorem zt_11 {w : Cond} {i : Nat} (h0 : tables_1_11[i]? = some w) (g : goodWord w = true) : w ∈ zTg := by
  have h := List.mem_of_getElem? h0
  exact List.mem_filter.mpr ⟨ztc (List.mem_append_right _ (List.mem_append_right _ (List.mem_append_right _ (List.mem_append_right _ (List.mem_append_right _ (List.mem_append_right _ (List.mem_append_right _ (List.mem_append_right _ (List.mem_append_right _ (List.mem_append_right _ (h))))))))))), g⟩
theorem zn_11 {w : Cond} {i : Nat} (h0 : tables_1_11[i]? = some w) (g : zNw w = true) : w ∈ zTn := by
  have h := List.mem_of_getElem? h0
  exact List.mem_filter.mpr ⟨ztb (List.mem_append_right _ (List.mem_append_right _ (List.mem_append_right _ (List.mem_append_right _ (List.mem_append_right _ (List.mem_append_right _ (List.mem_append_right _ (List.mem_append_right _ (List.mem_append_right _ (List.mem_append_right _ (h))))))))))), g⟩
theorem zsel {i : Nat} {q : MethodName × Nat} (h : lw_privs[i]? = some q) : Cond.selects q.1.cls q.1 q.1 ∈ zTg := List.mem_filter.mpr ⟨List.mem_append_right _ (List.mem_append_left _ (List.mem_map.mpr ⟨q, List.mem_of_getElem? h, rfl⟩)), rfl⟩
theorem zwin {l : List Cond} (h : (l.all fun w => decide (w ∈ tables_1) && goodWord w) = true) : ∀ w ∈ l, w ∈ zTg := fun w hw => by
  have h1 := List.all_eq_true.mp h w hw
  rw [Bool.and_eq_true, decide_eq_true_eq] at h1
  exact List.mem_filter.mpr ⟨ztc h1.1, h1.2⟩
theorem zThi {l : List Cond} (h : (l.all fun w => decide (w ∈ tables_1) && (goodWord w || zNw w)) = true) : ∀ w ∈ l, w ∈ zTg ∨ w ∈ zTn := fun w hw => by
  have h1 := List.all_eq_true.mp h w hw
  rw [Bool.and_eq_true, decide_eq_true_eq, Bool.or_eq_true] at h1
  exact h1.2.elim (fun g => Or.inl (List.mem_filter.mpr ⟨ztc h1.1, g⟩)) (fun g => Or.inr (List.mem_filter.mpr ⟨ztb h1.1, g⟩))
theorem zws_x : Cond.selects "java/lang/StringBuilder" ⟨"java/lang/AbstractStringBuilder", "ensureCapacityInternal", "(I)V"⟩ ⟨"java/lang/AbstractStringBuilder", "ensureCapacityInternal", "(I)V"⟩ ∈ zTg := List.mem_filter.mpr ⟨List.mem_append_left _ List.mem_cons_self, rfl⟩
theorem zws_1 : Cond.selects "Residueworks" ⟨"Residueworks", "numberOf", "(I)LResidueworks$Whole;"⟩ ⟨"Residueworks", "numberOf", "(I)LResidueworks$Whole;"⟩ ∈ zTg := zsel (i := 1) (q := (⟨"Residueworks", "numberOf", "(I)LResidueworks$Whole;"⟩, 10)) (by decide +kernel)
theorem zw_1_0 : (Jvm.Cond.initialized "ResidueworksLaw") ∈ zTg := zt_1 (i := 0) rfl rfl
theorem zw_1_1 : (Jvm.Cond.initialized "Residueworks") ∈ zTg := zt_1 (i := 1) rfl rfl
theorem zw_1_2 : (Jvm.Cond.initialized "Residueworks$Text") ∈ zTg := zt_1 (i := 2) rfl rfl
theorem zw_1_3 : (Jvm.Cond.initialized "Residueworks$Whole") ∈ zTg := zt_1 (i := 3) rfl rfl
theorem zw_1_4 : (Jvm.Cond.initialized "Residueworks$Row") ∈ zTg := zt_1 (i := 4) rfl rfl
theorem zw_1_5 : (Jvm.Cond.initialized "Residueworks$Division") ∈ zTg := zt_1 (i := 5) rfl rfl
theorem zw_1_6 : (Jvm.Cond.initialized "Residueworks$Residues") ∈ zTg := zt_1 (i := 6) rfl rfl
theorem zw_1_7 : (Jvm.Cond.initialized "Residueworks$Roots") ∈ zTg := zt_1 (i := 7) rfl rfl
theorem zw_1_8 : (Jvm.Cond.initialized "Residueworks$Conditions") ∈ zTg := zt_1 (i := 8) rfl rfl
theorem zw_1_9 : (Jvm.Cond.initialized "Residueworks$Theorem") ∈ zTg := zt_1 (i := 9) rfl rfl
theorem zw_1_10 : (Jvm.Cond.initialized "ResidueworksModel") ∈ zTg := zt_1 (i := 10) rfl rfl
theorem zw_1_11 : (Jvm.Cond.initialized "java/lang/AbstractStringBuilder") ∈ zTg := zt_1 (i := 11) rfl rfl
theorem zw_1_12 : (Jvm.Cond.initialized "java/lang/StringBuilder") ∈ zTg := zt_1 (i := 12) rfl rfl
theorem zw_1_15 : (Jvm.Cond.initialized "java/util/AbstractCollection") ∈ zTg := zt_1 (i := 15) rfl rfl
theorem zw_1_16 : (Jvm.Cond.initialized "java/util/AbstractList") ∈ zTg := zt_1 (i := 16) rfl rfl
theorem zw_1_17 : (Jvm.Cond.initialized "java/util/ArrayList") ∈ zTg := zt_1 (i := 17) rfl rfl
theorem zw_1_18 : (Jvm.Cond.initialized "java/lang/Math") ∈ zTg := zt_1 (i := 18) rfl rfl
theorem zw_1_19 : (Jvm.Cond.initialized "ResidueworksModel$Whole") ∈ zTg := zt_1 (i := 19) rfl rfl
theorem zw_1_20 : (Jvm.Cond.initialized "java/lang/System") ∈ zTg := zt_1 (i := 20) rfl rfl
theorem zw_1_42 : (Jvm.Cond.classLink "ResidueworksLaw" (8 : Nat) "Residueworks") ∈ zTg := zt_1 (i := 42) rfl rfl
theorem zw_1_43 : (Jvm.Cond.instantiable "Residueworks" (10 : Nat)) ∈ zTg := zt_1 (i := 43) rfl rfl
theorem zw_1_44 : (Jvm.Cond.methodLink "ResidueworksLaw" (143 : Nat) ({ cls := "Residueworks", name := "<init>", desc := "()V" } : Jvm.MethodName)) ∈ zTg := zt_1 (i := 44) rfl rfl
theorem zw_1_45 : (Jvm.Cond.instanceMethod ({ cls := "Residueworks", name := "<init>", desc := "()V" } : Jvm.MethodName)) ∈ zTg := zt_1 (i := 45) rfl rfl
theorem zw_1_46 : (Jvm.Cond.code ({ cls := "Residueworks", name := "<init>", desc := "()V" } : Jvm.MethodName) prog_1_method_1_code (2 : Nat) (Option.none : Option Jvm.ClassFile.FieldType)) ∈ zTg := zt_1 (i := 46) rfl rfl
theorem zw_1_47 : (Jvm.Cond.methodLink "Residueworks" (1 : Nat) ({ cls := "java/lang/Object", name := "<init>", desc := "()V" } : Jvm.MethodName)) ∈ zTg := zt_1 (i := 47) rfl rfl
theorem zw_1_48 : (Jvm.Cond.instanceMethod ({ cls := "java/lang/Object", name := "<init>", desc := "()V" } : Jvm.MethodName)) ∈ zTg := zt_1 (i := 48) rfl rfl
theorem zw_1_49 : (Jvm.Cond.code ({ cls := "java/lang/Object", name := "<init>", desc := "()V" } : Jvm.MethodName) object_method_1_code (1 : Nat) (Option.none : Option Jvm.ClassFile.FieldType)) ∈ zTg := zt_1 (i := 49) rfl rfl
theorem zw_1_50 : (Jvm.Cond.classLink "Residueworks" (9 : Nat) "Residueworks$Whole") ∈ zTg := zt_1 (i := 50) rfl rfl
theorem zw_1_51 : (Jvm.Cond.arrayOver (Jvm.ClassFile.FieldType.object "Residueworks$Whole")) ∈ zTn := zn_1 (i := 51) rfl rfl
theorem zw_1_52 : (Jvm.Cond.classLink "Residueworks" (15 : Nat) "Residueworks$Text") ∈ zTg := zt_1 (i := 52) rfl rfl
theorem zw_1_53 : (Jvm.Cond.instantiable "Residueworks$Text" (3 : Nat)) ∈ zTg := zt_1 (i := 53) rfl rfl
theorem zw_1_54 : (Jvm.Cond.methodLinkNest "Residueworks" (17 : Nat) ({ cls := "Residueworks$Text", name := "<init>", desc := "()V" } : Jvm.MethodName) "Residueworks") ∈ zTn := zn_1 (i := 54) rfl rfl
theorem zw_1_55 : (Jvm.Cond.instanceMethod ({ cls := "Residueworks$Text", name := "<init>", desc := "()V" } : Jvm.MethodName)) ∈ zTg := zt_1 (i := 55) rfl rfl
theorem zw_1_56 : (Jvm.Cond.code ({ cls := "Residueworks$Text", name := "<init>", desc := "()V" } : Jvm.MethodName) prog_8_method_1_code (1 : Nat) (Option.none : Option Jvm.ClassFile.FieldType)) ∈ zTg := zt_1 (i := 56) rfl rfl
theorem zw_1_57 : (Jvm.Cond.methodLink "Residueworks$Text" (1 : Nat) ({ cls := "java/lang/Object", name := "<init>", desc := "()V" } : Jvm.MethodName)) ∈ zTg := zt_1 (i := 57) rfl rfl
theorem zw_1_58 : (Jvm.Cond.classLink "Residueworks$Text" (13 : Nat) "Residueworks$Whole") ∈ zTg := zt_1 (i := 58) rfl rfl
theorem zw_1_59 : (Jvm.Cond.instantiable "Residueworks$Whole" (3 : Nat)) ∈ zTg := zt_1 (i := 59) rfl rfl
theorem zw_1_60 : (Jvm.Cond.methodLinkNest "Residueworks$Text" (15 : Nat) ({ cls := "Residueworks$Whole", name := "<init>", desc := "()V" } : Jvm.MethodName) "Residueworks") ∈ zTn := zn_1 (i := 60) rfl rfl
theorem zw_1_61 : (Jvm.Cond.instanceMethod ({ cls := "Residueworks$Whole", name := "<init>", desc := "()V" } : Jvm.MethodName)) ∈ zTg := zt_1 (i := 61) rfl rfl
theorem zw_1_62 : (Jvm.Cond.code ({ cls := "Residueworks$Whole", name := "<init>", desc := "()V" } : Jvm.MethodName) prog_10_method_1_code (1 : Nat) (Option.none : Option Jvm.ClassFile.FieldType)) ∈ zTg := zt_1 (i := 62) rfl rfl
theorem zw_1_63 : (Jvm.Cond.methodLink "Residueworks$Whole" (3 : Nat) ({ cls := "java/lang/Object", name := "<init>", desc := "()V" } : Jvm.MethodName)) ∈ zTg := zt_1 (i := 63) rfl rfl
theorem zw_1_64 : (Jvm.Cond.fieldLink "Residueworks$Whole" (9 : Nat) "Residueworks$Whole" "limbs" "[I") ∈ zTg := zt_1 (i := 64) rfl rfl
theorem zw_1_66 : (Jvm.Cond.fieldLink "Residueworks$Whole" (13 : Nat) "Residueworks$Whole" "size" "I") ∈ zTg := zt_1 (i := 66) rfl rfl
theorem zw_1_69 : (Jvm.Cond.fieldLink "Residueworks$Whole" (17 : Nat) "Residueworks$Whole" "sign" "I") ∈ zTg := zt_1 (i := 69) rfl rfl
theorem zw_1_72 : (Jvm.Cond.fieldLink "Residueworks$Text" (28 : Nat) "Residueworks$Whole" "sign" "I") ∈ zTg := zt_1 (i := 72) rfl rfl
theorem zw_1_75 : (Jvm.Cond.laysFinal "Residueworks$Whole" "Residueworks$Whole" "limbs" "[I") ∈ zTg := zt_1 (i := 75) rfl rfl
theorem zw_1_77 : (Jvm.Cond.lays "Residueworks$Whole" "Residueworks$Whole" "size" "I") ∈ zTg := zt_1 (i := 77) rfl rfl
theorem zw_1_79 : (Jvm.Cond.lays "Residueworks$Whole" "Residueworks$Whole" "sign" "I") ∈ zTg := zt_1 (i := 79) rfl rfl
theorem zw_1_82 : (Jvm.Cond.arrayClass Jvm.ClassFile.FieldType.char) ∈ zTg := zt_1 (i := 82) rfl rfl
theorem zw_1_83 : (Jvm.Cond.arrayClass Jvm.ClassFile.FieldType.int) ∈ zTg := zt_1 (i := 83) rfl rfl
theorem zw_1_84 : (Jvm.Cond.fieldLink "Residueworks$Text" (9 : Nat) "Residueworks$Text" "signs" "[C") ∈ zTg := zt_1 (i := 84) rfl rfl
theorem zw_1_85 : (Jvm.Cond.fieldLink "Residueworks$Text" (16 : Nat) "Residueworks$Text" "left" "LResidueworks$Whole;") ∈ zTg := zt_1 (i := 85) rfl rfl
theorem zw_1_86 : (Jvm.Cond.fieldLink "Residueworks$Text" (20 : Nat) "Residueworks$Text" "count" "I") ∈ zTg := zt_1 (i := 86) rfl rfl
theorem zw_1_87 : (Jvm.Cond.fieldLink "Residueworks" (198 : Nat) "Residueworks$Text" "count" "I") ∈ zTg := zt_1 (i := 87) rfl rfl
theorem zw_1_88 : (Jvm.Cond.laysFinal "Residueworks$Text" "Residueworks$Text" "signs" "[C") ∈ zTg := zt_1 (i := 88) rfl rfl
theorem zw_1_90 : (Jvm.Cond.laysFinal "Residueworks$Text" "Residueworks$Text" "left" "LResidueworks$Whole;") ∈ zTg := zt_1 (i := 90) rfl rfl
theorem zw_1_92 : (Jvm.Cond.lays "Residueworks$Text" "Residueworks$Text" "count" "I") ∈ zTg := zt_1 (i := 92) rfl rfl
theorem zw_1_95 : (Jvm.Cond.classLink "Residueworks" (22 : Nat) "Residueworks$Row") ∈ zTg := zt_1 (i := 95) rfl rfl
theorem zw_1_96 : (Jvm.Cond.instantiable "Residueworks$Row" (3 : Nat)) ∈ zTg := zt_1 (i := 96) rfl rfl
theorem zw_1_97 : (Jvm.Cond.methodLinkNest "Residueworks" (24 : Nat) ({ cls := "Residueworks$Row", name := "<init>", desc := "()V" } : Jvm.MethodName) "Residueworks") ∈ zTn := zn_1 (i := 97) rfl rfl
theorem zw_1_98 : (Jvm.Cond.instanceMethod ({ cls := "Residueworks$Row", name := "<init>", desc := "()V" } : Jvm.MethodName)) ∈ zTg := zt_1 (i := 98) rfl rfl
theorem zw_1_99 : (Jvm.Cond.code ({ cls := "Residueworks$Row", name := "<init>", desc := "()V" } : Jvm.MethodName) prog_6_method_1_code (1 : Nat) (Option.none : Option Jvm.ClassFile.FieldType)) ∈ zTg := zt_1 (i := 99) rfl rfl
theorem zw_1_100 : (Jvm.Cond.methodLink "Residueworks$Row" (1 : Nat) ({ cls := "java/lang/Object", name := "<init>", desc := "()V" } : Jvm.MethodName)) ∈ zTg := zt_1 (i := 100) rfl rfl
theorem zw_1_101 : (Jvm.Cond.classLink "Residueworks$Row" (13 : Nat) "Residueworks$Whole") ∈ zTg := zt_1 (i := 101) rfl rfl
theorem zw_1_102 : (Jvm.Cond.methodLinkNest "Residueworks$Row" (15 : Nat) ({ cls := "Residueworks$Whole", name := "<init>", desc := "()V" } : Jvm.MethodName) "Residueworks") ∈ zTn := zn_1 (i := 102) rfl rfl
theorem zw_1_103 : (Jvm.Cond.fieldLink "Residueworks$Row" (9 : Nat) "Residueworks$Row" "bytes" "[B") ∈ zTg := zt_1 (i := 103) rfl rfl
theorem zw_1_104 : (Jvm.Cond.fieldLink "Residueworks$Row" (16 : Nat) "Residueworks$Row" "round" "LResidueworks$Whole;") ∈ zTg := zt_1 (i := 104) rfl rfl
theorem zw_1_107 : (Jvm.Cond.laysFinal "Residueworks$Row" "Residueworks$Row" "bytes" "[B") ∈ zTg := zt_1 (i := 107) rfl rfl
theorem zw_1_109 : (Jvm.Cond.laysFinal "Residueworks$Row" "Residueworks$Row" "round" "LResidueworks$Whole;") ∈ zTg := zt_1 (i := 109) rfl rfl
theorem zw_1_111 : (Jvm.Cond.lays "Residueworks$Row" "Residueworks$Row" "count" "I") ∈ zTg := zt_1 (i := 111) rfl rfl
theorem zw_1_114 : (Jvm.Cond.arrayClass Jvm.ClassFile.FieldType.byte) ∈ zTg := zt_1 (i := 114) rfl rfl
theorem zw_1_115 : (Jvm.Cond.classLink "Residueworks" (29 : Nat) "Residueworks$Division") ∈ zTg := zt_1 (i := 115) rfl rfl
theorem zw_1_116 : (Jvm.Cond.instantiable "Residueworks$Division" (3 : Nat)) ∈ zTg := zt_1 (i := 116) rfl rfl
theorem zw_1_117 : (Jvm.Cond.methodLinkNest "Residueworks" (31 : Nat) ({ cls := "Residueworks$Division", name := "<init>", desc := "()V" } : Jvm.MethodName) "Residueworks") ∈ zTn := zn_1 (i := 117) rfl rfl
theorem zw_1_118 : (Jvm.Cond.instanceMethod ({ cls := "Residueworks$Division", name := "<init>", desc := "()V" } : Jvm.MethodName)) ∈ zTg := zt_1 (i := 118) rfl rfl
theorem zw_1_119 : (Jvm.Cond.code ({ cls := "Residueworks$Division", name := "<init>", desc := "()V" } : Jvm.MethodName) prog_3_method_1_code (1 : Nat) (Option.none : Option Jvm.ClassFile.FieldType)) ∈ zTg := zt_1 (i := 119) rfl rfl
theorem zw_1_120 : (Jvm.Cond.methodLink "Residueworks$Division" (1 : Nat) ({ cls := "java/lang/Object", name := "<init>", desc := "()V" } : Jvm.MethodName)) ∈ zTg := zt_1 (i := 120) rfl rfl
theorem zw_1_121 : (Jvm.Cond.classLink "Residueworks$Division" (7 : Nat) "Residueworks$Whole") ∈ zTg := zt_1 (i := 121) rfl rfl
theorem zw_1_122 : (Jvm.Cond.methodLinkNest "Residueworks$Division" (9 : Nat) ({ cls := "Residueworks$Whole", name := "<init>", desc := "()V" } : Jvm.MethodName) "Residueworks") ∈ zTn := zn_1 (i := 122) rfl rfl
theorem zw_1_123 : (Jvm.Cond.fieldLink "Residueworks$Division" (10 : Nat) "Residueworks$Division" "quotient" "LResidueworks$Whole;") ∈ zTg := zt_1 (i := 123) rfl rfl
theorem zw_1_128 : (Jvm.Cond.fieldLink "Residueworks$Division" (16 : Nat) "Residueworks$Division" "rest" "LResidueworks$Whole;") ∈ zTg := zt_1 (i := 128) rfl rfl
theorem zw_1_133 : (Jvm.Cond.fieldLink "Residueworks$Division" (19 : Nat) "Residueworks$Division" "divisor" "LResidueworks$Whole;") ∈ zTg := zt_1 (i := 133) rfl rfl
theorem zw_1_134 : (Jvm.Cond.laysFinal "Residueworks$Division" "Residueworks$Division" "quotient" "LResidueworks$Whole;") ∈ zTg := zt_1 (i := 134) rfl rfl
theorem zw_1_136 : (Jvm.Cond.laysFinal "Residueworks$Division" "Residueworks$Division" "rest" "LResidueworks$Whole;") ∈ zTg := zt_1 (i := 136) rfl rfl
theorem zw_1_138 : (Jvm.Cond.laysFinal "Residueworks$Division" "Residueworks$Division" "divisor" "LResidueworks$Whole;") ∈ zTg := zt_1 (i := 138) rfl rfl
theorem zw_1_141 : (Jvm.Cond.classLink "Residueworks" (36 : Nat) "Residueworks$Residues") ∈ zTg := zt_1 (i := 141) rfl rfl
theorem zw_1_142 : (Jvm.Cond.instantiable "Residueworks$Residues" (11 : Nat)) ∈ zTg := zt_1 (i := 142) rfl rfl
theorem zw_1_143 : (Jvm.Cond.methodLinkNest "Residueworks" (38 : Nat) ({ cls := "Residueworks$Residues", name := "<init>", desc := "()V" } : Jvm.MethodName) "Residueworks") ∈ zTn := zn_1 (i := 143) rfl rfl
theorem zw_1_144 : (Jvm.Cond.instanceMethod ({ cls := "Residueworks$Residues", name := "<init>", desc := "()V" } : Jvm.MethodName)) ∈ zTg := zt_1 (i := 144) rfl rfl
theorem zw_1_145 : (Jvm.Cond.code ({ cls := "Residueworks$Residues", name := "<init>", desc := "()V" } : Jvm.MethodName) prog_4_method_1_code (1 : Nat) (Option.none : Option Jvm.ClassFile.FieldType)) ∈ zTg := zt_1 (i := 145) rfl rfl
theorem zw_1_146 : (Jvm.Cond.methodLink "Residueworks$Residues" (1 : Nat) ({ cls := "java/lang/Object", name := "<init>", desc := "()V" } : Jvm.MethodName)) ∈ zTg := zt_1 (i := 146) rfl rfl
theorem zw_1_147 : (Jvm.Cond.classLink "Residueworks$Residues" (7 : Nat) "Residueworks$Whole") ∈ zTg := zt_1 (i := 147) rfl rfl
theorem zw_1_148 : (Jvm.Cond.methodLinkNest "Residueworks$Residues" (9 : Nat) ({ cls := "Residueworks$Whole", name := "<init>", desc := "()V" } : Jvm.MethodName) "Residueworks") ∈ zTn := zn_1 (i := 148) rfl rfl
theorem zw_1_149 : (Jvm.Cond.classLink "Residueworks$Residues" (25 : Nat) "Residueworks$Division") ∈ zTg := zt_1 (i := 149) rfl rfl
theorem zw_1_150 : (Jvm.Cond.methodLinkNest "Residueworks$Residues" (27 : Nat) ({ cls := "Residueworks$Division", name := "<init>", desc := "()V" } : Jvm.MethodName) "Residueworks") ∈ zTn := zn_1 (i := 150) rfl rfl
theorem zw_1_151 : (Jvm.Cond.fieldLink "Residueworks$Residues" (10 : Nat) "Residueworks$Residues" "raised" "LResidueworks$Whole;") ∈ zTg := zt_1 (i := 151) rfl rfl
theorem zw_1_154 : (Jvm.Cond.fieldLink "Residueworks$Residues" (16 : Nat) "Residueworks$Residues" "inverse" "LResidueworks$Whole;") ∈ zTg := zt_1 (i := 154) rfl rfl
theorem zw_1_158 : (Jvm.Cond.fieldLink "Residueworks$Residues" (19 : Nat) "Residueworks$Residues" "divisor" "LResidueworks$Whole;") ∈ zTg := zt_1 (i := 158) rfl rfl
theorem zw_1_162 : (Jvm.Cond.fieldLink "Residueworks$Residues" (22 : Nat) "Residueworks$Residues" "multiple" "LResidueworks$Whole;") ∈ zTg := zt_1 (i := 162) rfl rfl
theorem zw_1_164 : (Jvm.Cond.fieldLink "Residueworks$Residues" (28 : Nat) "Residueworks$Residues" "division" "LResidueworks$Division;") ∈ zTg := zt_1 (i := 164) rfl rfl
theorem zw_1_165 : (Jvm.Cond.fieldLink "Residueworks$Residues" (32 : Nat) "Residueworks$Residues" "base" "LResidueworks$Whole;") ∈ zTg := zt_1 (i := 165) rfl rfl
theorem zw_1_166 : (Jvm.Cond.fieldLink "Residueworks$Residues" (35 : Nat) "Residueworks$Residues" "product" "LResidueworks$Whole;") ∈ zTg := zt_1 (i := 166) rfl rfl
theorem zw_1_167 : (Jvm.Cond.fieldLink "Residueworks$Residues" (38 : Nat) "Residueworks$Residues" "numberOne" "LResidueworks$Whole;") ∈ zTg := zt_1 (i := 167) rfl rfl
theorem zw_1_168 : (Jvm.Cond.fieldLink "Residueworks$Residues" (41 : Nat) "Residueworks$Residues" "numberTwo" "LResidueworks$Whole;") ∈ zTg := zt_1 (i := 168) rfl rfl
theorem zw_1_169 : (Jvm.Cond.fieldLink "Residueworks$Residues" (44 : Nat) "Residueworks$Residues" "factorOne" "LResidueworks$Whole;") ∈ zTg := zt_1 (i := 169) rfl rfl
theorem zw_1_170 : (Jvm.Cond.fieldLink "Residueworks$Residues" (47 : Nat) "Residueworks$Residues" "factorTwo" "LResidueworks$Whole;") ∈ zTg := zt_1 (i := 170) rfl rfl
theorem zw_1_171 : (Jvm.Cond.laysFinal "Residueworks$Residues" "Residueworks$Residues" "raised" "LResidueworks$Whole;") ∈ zTg := zt_1 (i := 171) rfl rfl
theorem zw_1_173 : (Jvm.Cond.laysFinal "Residueworks$Residues" "Residueworks$Residues" "inverse" "LResidueworks$Whole;") ∈ zTg := zt_1 (i := 173) rfl rfl
theorem zw_1_175 : (Jvm.Cond.laysFinal "Residueworks$Residues" "Residueworks$Residues" "divisor" "LResidueworks$Whole;") ∈ zTg := zt_1 (i := 175) rfl rfl
theorem zw_1_177 : (Jvm.Cond.laysFinal "Residueworks$Residues" "Residueworks$Residues" "multiple" "LResidueworks$Whole;") ∈ zTg := zt_1 (i := 177) rfl rfl
theorem zw_1_179 : (Jvm.Cond.laysFinal "Residueworks$Residues" "Residueworks$Residues" "division" "LResidueworks$Division;") ∈ zTg := zt_1 (i := 179) rfl rfl
theorem zw_1_181 : (Jvm.Cond.laysFinal "Residueworks$Residues" "Residueworks$Residues" "base" "LResidueworks$Whole;") ∈ zTg := zt_1 (i := 181) rfl rfl
theorem zw_1_183 : (Jvm.Cond.laysFinal "Residueworks$Residues" "Residueworks$Residues" "product" "LResidueworks$Whole;") ∈ zTg := zt_1 (i := 183) rfl rfl
theorem zw_1_185 : (Jvm.Cond.laysFinal "Residueworks$Residues" "Residueworks$Residues" "numberOne" "LResidueworks$Whole;") ∈ zTg := zt_1 (i := 185) rfl rfl
theorem zw_1_187 : (Jvm.Cond.laysFinal "Residueworks$Residues" "Residueworks$Residues" "numberTwo" "LResidueworks$Whole;") ∈ zTg := zt_1 (i := 187) rfl rfl
theorem zw_1_189 : (Jvm.Cond.laysFinal "Residueworks$Residues" "Residueworks$Residues" "factorOne" "LResidueworks$Whole;") ∈ zTg := zt_1 (i := 189) rfl rfl
theorem zw_1_191 : (Jvm.Cond.laysFinal "Residueworks$Residues" "Residueworks$Residues" "factorTwo" "LResidueworks$Whole;") ∈ zTg := zt_1 (i := 191) rfl rfl
theorem zw_1_194 : (Jvm.Cond.classLink "Residueworks" (43 : Nat) "Residueworks$Roots") ∈ zTg := zt_1 (i := 194) rfl rfl
theorem zw_1_195 : (Jvm.Cond.instantiable "Residueworks$Roots" (6 : Nat)) ∈ zTg := zt_1 (i := 195) rfl rfl
theorem zw_1_196 : (Jvm.Cond.methodLinkNest "Residueworks" (45 : Nat) ({ cls := "Residueworks$Roots", name := "<init>", desc := "()V" } : Jvm.MethodName) "Residueworks") ∈ zTn := zn_1 (i := 196) rfl rfl
theorem zw_1_197 : (Jvm.Cond.instanceMethod ({ cls := "Residueworks$Roots", name := "<init>", desc := "()V" } : Jvm.MethodName)) ∈ zTg := zt_1 (i := 197) rfl rfl
theorem zw_1_198 : (Jvm.Cond.code ({ cls := "Residueworks$Roots", name := "<init>", desc := "()V" } : Jvm.MethodName) prog_5_method_1_code (1 : Nat) (Option.none : Option Jvm.ClassFile.FieldType)) ∈ zTg := zt_1 (i := 198) rfl rfl
theorem zw_1_199 : (Jvm.Cond.methodLink "Residueworks$Roots" (1 : Nat) ({ cls := "java/lang/Object", name := "<init>", desc := "()V" } : Jvm.MethodName)) ∈ zTg := zt_1 (i := 199) rfl rfl
theorem zw_1_200 : (Jvm.Cond.classLink "Residueworks$Roots" (7 : Nat) "Residueworks$Whole") ∈ zTg := zt_1 (i := 200) rfl rfl
theorem zw_1_201 : (Jvm.Cond.methodLinkNest "Residueworks$Roots" (9 : Nat) ({ cls := "Residueworks$Whole", name := "<init>", desc := "()V" } : Jvm.MethodName) "Residueworks") ∈ zTn := zn_1 (i := 201) rfl rfl
theorem zw_1_202 : (Jvm.Cond.fieldLink "Residueworks$Roots" (10 : Nat) "Residueworks$Roots" "raised" "LResidueworks$Whole;") ∈ zTg := zt_1 (i := 202) rfl rfl
theorem zw_1_205 : (Jvm.Cond.fieldLink "Residueworks$Roots" (16 : Nat) "Residueworks$Roots" "greatest" "LResidueworks$Whole;") ∈ zTg := zt_1 (i := 205) rfl rfl
theorem zw_1_208 : (Jvm.Cond.fieldLink "Residueworks$Roots" (19 : Nat) "Residueworks$Roots" "spare" "LResidueworks$Whole;") ∈ zTg := zt_1 (i := 208) rfl rfl
theorem zw_1_209 : (Jvm.Cond.fieldLink "Residueworks$Roots" (22 : Nat) "Residueworks$Roots" "trial" "LResidueworks$Whole;") ∈ zTg := zt_1 (i := 209) rfl rfl
theorem zw_1_210 : (Jvm.Cond.fieldLink "Residueworks$Roots" (25 : Nat) "Residueworks$Roots" "step" "LResidueworks$Whole;") ∈ zTg := zt_1 (i := 210) rfl rfl
theorem zw_1_211 : (Jvm.Cond.fieldLink "Residueworks$Roots" (28 : Nat) "Residueworks$Roots" "base" "LResidueworks$Whole;") ∈ zTg := zt_1 (i := 211) rfl rfl
theorem zw_1_212 : (Jvm.Cond.laysFinal "Residueworks$Roots" "Residueworks$Roots" "raised" "LResidueworks$Whole;") ∈ zTg := zt_1 (i := 212) rfl rfl
theorem zw_1_214 : (Jvm.Cond.laysFinal "Residueworks$Roots" "Residueworks$Roots" "greatest" "LResidueworks$Whole;") ∈ zTg := zt_1 (i := 214) rfl rfl
theorem zw_1_216 : (Jvm.Cond.laysFinal "Residueworks$Roots" "Residueworks$Roots" "spare" "LResidueworks$Whole;") ∈ zTg := zt_1 (i := 216) rfl rfl
theorem zw_1_218 : (Jvm.Cond.laysFinal "Residueworks$Roots" "Residueworks$Roots" "trial" "LResidueworks$Whole;") ∈ zTg := zt_1 (i := 218) rfl rfl
theorem zw_1_220 : (Jvm.Cond.laysFinal "Residueworks$Roots" "Residueworks$Roots" "step" "LResidueworks$Whole;") ∈ zTg := zt_1 (i := 220) rfl rfl
theorem zw_1_222 : (Jvm.Cond.laysFinal "Residueworks$Roots" "Residueworks$Roots" "base" "LResidueworks$Whole;") ∈ zTg := zt_1 (i := 222) rfl rfl
theorem zw_1_225 : (Jvm.Cond.classLink "Residueworks" (50 : Nat) "Residueworks$Conditions") ∈ zTg := zt_1 (i := 225) rfl rfl
theorem zw_1_226 : (Jvm.Cond.instantiable "Residueworks$Conditions" (12 : Nat)) ∈ zTg := zt_1 (i := 226) rfl rfl
theorem zw_1_227 : (Jvm.Cond.methodLink "Residueworks" (52 : Nat) ({ cls := "Residueworks$Conditions", name := "<init>", desc := "()V" } : Jvm.MethodName)) ∈ zTg := zt_1 (i := 227) rfl rfl
theorem zw_1_228 : (Jvm.Cond.instanceMethod ({ cls := "Residueworks$Conditions", name := "<init>", desc := "()V" } : Jvm.MethodName)) ∈ zTg := zt_1 (i := 228) rfl rfl
theorem zw_1_229 : (Jvm.Cond.code ({ cls := "Residueworks$Conditions", name := "<init>", desc := "()V" } : Jvm.MethodName) prog_2_method_1_code (2 : Nat) (Option.none : Option Jvm.ClassFile.FieldType)) ∈ zTg := zt_1 (i := 229) rfl rfl
theorem zw_1_230 : (Jvm.Cond.methodLink "Residueworks$Conditions" (1 : Nat) ({ cls := "java/lang/Object", name := "<init>", desc := "()V" } : Jvm.MethodName)) ∈ zTg := zt_1 (i := 230) rfl rfl
theorem zw_1_231 : (Jvm.Cond.classLink "Residueworks$Conditions" (7 : Nat) "Residueworks$Whole") ∈ zTg := zt_1 (i := 231) rfl rfl
theorem zw_1_232 : (Jvm.Cond.methodLinkNest "Residueworks$Conditions" (9 : Nat) ({ cls := "Residueworks$Whole", name := "<init>", desc := "()V" } : Jvm.MethodName) "Residueworks") ∈ zTn := zn_1 (i := 232) rfl rfl
theorem zw_1_233 : (Jvm.Cond.classLink "Residueworks$Conditions" (26 : Nat) "Residueworks$Division") ∈ zTg := zt_1 (i := 233) rfl rfl
theorem zw_1_234 : (Jvm.Cond.methodLinkNest "Residueworks$Conditions" (28 : Nat) ({ cls := "Residueworks$Division", name := "<init>", desc := "()V" } : Jvm.MethodName) "Residueworks") ∈ zTn := zn_1 (i := 234) rfl rfl
theorem zw_1_235 : (Jvm.Cond.classLink "Residueworks$Conditions" (33 : Nat) "Residueworks$Residues") ∈ zTg := zt_1 (i := 235) rfl rfl
theorem zw_1_236 : (Jvm.Cond.methodLinkNest "Residueworks$Conditions" (35 : Nat) ({ cls := "Residueworks$Residues", name := "<init>", desc := "()V" } : Jvm.MethodName) "Residueworks") ∈ zTn := zn_1 (i := 236) rfl rfl
theorem zw_1_237 : (Jvm.Cond.fieldLink "Residueworks$Conditions" (10 : Nat) "Residueworks$Conditions" "number" "LResidueworks$Whole;") ∈ zTg := zt_1 (i := 237) rfl rfl
theorem zw_2_0 : (Jvm.Cond.fieldLink "Residueworks$Conditions" (16 : Nat) "Residueworks$Conditions" "multiple" "LResidueworks$Whole;") ∈ zTg := zt_2 (i := 0) rfl rfl
theorem zw_2_6 : (Jvm.Cond.fieldLink "Residueworks$Conditions" (19 : Nat) "Residueworks$Conditions" "rests" "[LResidueworks$Whole;") ∈ zTg := zt_2 (i := 6) rfl rfl
theorem zw_2_7 : (Jvm.Cond.fieldLink "Residueworks$Conditions" (23 : Nat) "Residueworks$Conditions" "moduli" "[LResidueworks$Whole;") ∈ zTg := zt_2 (i := 7) rfl rfl
theorem zw_2_8 : (Jvm.Cond.fieldLink "Residueworks$Conditions" (29 : Nat) "Residueworks$Conditions" "division" "LResidueworks$Division;") ∈ zTg := zt_2 (i := 8) rfl rfl
theorem zw_2_9 : (Jvm.Cond.fieldLink "Residueworks$Conditions" (36 : Nat) "Residueworks$Conditions" "residues" "LResidueworks$Residues;") ∈ zTg := zt_2 (i := 9) rfl rfl
theorem zw_2_10 : (Jvm.Cond.fieldLink "Residueworks$Conditions" (40 : Nat) "Residueworks$Conditions" "difference" "LResidueworks$Whole;") ∈ zTg := zt_2 (i := 10) rfl rfl
theorem zw_2_11 : (Jvm.Cond.fieldLink "Residueworks$Conditions" (43 : Nat) "Residueworks$Conditions" "factor" "LResidueworks$Whole;") ∈ zTg := zt_2 (i := 11) rfl rfl
theorem zw_2_12 : (Jvm.Cond.fieldLink "Residueworks$Conditions" (46 : Nat) "Residueworks$Conditions" "step" "LResidueworks$Whole;") ∈ zTg := zt_2 (i := 12) rfl rfl
theorem zw_2_13 : (Jvm.Cond.fieldLink "Residueworks$Conditions" (49 : Nat) "Residueworks$Conditions" "product" "LResidueworks$Whole;") ∈ zTg := zt_2 (i := 13) rfl rfl
theorem zw_2_14 : (Jvm.Cond.fieldLink "Residueworks$Conditions" (52 : Nat) "Residueworks$Conditions" "longer" "LResidueworks$Whole;") ∈ zTg := zt_2 (i := 14) rfl rfl
theorem zw_2_15 : (Jvm.Cond.laysFinal "Residueworks$Conditions" "Residueworks$Conditions" "number" "LResidueworks$Whole;") ∈ zTg := zt_2 (i := 15) rfl rfl
theorem zw_2_17 : (Jvm.Cond.laysFinal "Residueworks$Conditions" "Residueworks$Conditions" "multiple" "LResidueworks$Whole;") ∈ zTg := zt_2 (i := 17) rfl rfl
theorem zw_2_19 : (Jvm.Cond.lays "Residueworks$Conditions" "Residueworks$Conditions" "count" "I") ∈ zTg := zt_2 (i := 19) rfl rfl
theorem zw_2_21 : (Jvm.Cond.laysFinal "Residueworks$Conditions" "Residueworks$Conditions" "rests" "[LResidueworks$Whole;") ∈ zTg := zt_2 (i := 21) rfl rfl
theorem zw_2_23 : (Jvm.Cond.laysFinal "Residueworks$Conditions" "Residueworks$Conditions" "moduli" "[LResidueworks$Whole;") ∈ zTg := zt_2 (i := 23) rfl rfl
theorem zw_2_25 : (Jvm.Cond.laysFinal "Residueworks$Conditions" "Residueworks$Conditions" "division" "LResidueworks$Division;") ∈ zTg := zt_2 (i := 25) rfl rfl
theorem zw_2_27 : (Jvm.Cond.laysFinal "Residueworks$Conditions" "Residueworks$Conditions" "residues" "LResidueworks$Residues;") ∈ zTg := zt_2 (i := 27) rfl rfl
theorem zw_2_29 : (Jvm.Cond.laysFinal "Residueworks$Conditions" "Residueworks$Conditions" "difference" "LResidueworks$Whole;") ∈ zTg := zt_2 (i := 29) rfl rfl
theorem zw_2_31 : (Jvm.Cond.laysFinal "Residueworks$Conditions" "Residueworks$Conditions" "factor" "LResidueworks$Whole;") ∈ zTg := zt_2 (i := 31) rfl rfl
theorem zw_2_33 : (Jvm.Cond.laysFinal "Residueworks$Conditions" "Residueworks$Conditions" "step" "LResidueworks$Whole;") ∈ zTg := zt_2 (i := 33) rfl rfl
theorem zw_2_35 : (Jvm.Cond.laysFinal "Residueworks$Conditions" "Residueworks$Conditions" "product" "LResidueworks$Whole;") ∈ zTg := zt_2 (i := 35) rfl rfl
theorem zw_2_37 : (Jvm.Cond.laysFinal "Residueworks$Conditions" "Residueworks$Conditions" "longer" "LResidueworks$Whole;") ∈ zTg := zt_2 (i := 37) rfl rfl
theorem zw_2_40 : (Jvm.Cond.classLink "Residueworks" (57 : Nat) "Residueworks$Theorem") ∈ zTg := zt_2 (i := 40) rfl rfl
theorem zw_2_41 : (Jvm.Cond.instantiable "Residueworks$Theorem" (15 : Nat)) ∈ zTg := zt_2 (i := 41) rfl rfl
theorem zw_2_42 : (Jvm.Cond.methodLink "Residueworks" (59 : Nat) ({ cls := "Residueworks$Theorem", name := "<init>", desc := "()V" } : Jvm.MethodName)) ∈ zTg := zt_2 (i := 42) rfl rfl
theorem zw_2_43 : (Jvm.Cond.instanceMethod ({ cls := "Residueworks$Theorem", name := "<init>", desc := "()V" } : Jvm.MethodName)) ∈ zTg := zt_2 (i := 43) rfl rfl
theorem zw_2_44 : (Jvm.Cond.code ({ cls := "Residueworks$Theorem", name := "<init>", desc := "()V" } : Jvm.MethodName) prog_9_method_1_code (1 : Nat) (Option.none : Option Jvm.ClassFile.FieldType)) ∈ zTg := zt_2 (i := 44) rfl rfl
theorem zw_2_45 : (Jvm.Cond.methodLink "Residueworks$Theorem" (3 : Nat) ({ cls := "java/lang/Object", name := "<init>", desc := "()V" } : Jvm.MethodName)) ∈ zTg := zt_2 (i := 45) rfl rfl
theorem zw_2_46 : (Jvm.Cond.classLink "Residueworks$Theorem" (9 : Nat) "Residueworks$Division") ∈ zTg := zt_2 (i := 46) rfl rfl
theorem zw_2_47 : (Jvm.Cond.methodLinkNest "Residueworks$Theorem" (11 : Nat) ({ cls := "Residueworks$Division", name := "<init>", desc := "()V" } : Jvm.MethodName) "Residueworks") ∈ zTn := zn_2 (i := 47) rfl rfl
theorem zw_2_48 : (Jvm.Cond.classLink "Residueworks$Theorem" (18 : Nat) "Residueworks$Residues") ∈ zTg := zt_2 (i := 48) rfl rfl
theorem zw_2_49 : (Jvm.Cond.methodLinkNest "Residueworks$Theorem" (20 : Nat) ({ cls := "Residueworks$Residues", name := "<init>", desc := "()V" } : Jvm.MethodName) "Residueworks") ∈ zTn := zn_2 (i := 49) rfl rfl
theorem zw_2_50 : (Jvm.Cond.classLink "Residueworks$Theorem" (25 : Nat) "Residueworks$Roots") ∈ zTg := zt_2 (i := 50) rfl rfl
theorem zw_2_51 : (Jvm.Cond.methodLinkNest "Residueworks$Theorem" (27 : Nat) ({ cls := "Residueworks$Roots", name := "<init>", desc := "()V" } : Jvm.MethodName) "Residueworks") ∈ zTn := zn_2 (i := 51) rfl rfl
theorem zw_2_52 : (Jvm.Cond.classLink "Residueworks$Theorem" (32 : Nat) "Residueworks$Conditions") ∈ zTg := zt_2 (i := 52) rfl rfl
theorem zw_2_53 : (Jvm.Cond.methodLink "Residueworks$Theorem" (34 : Nat) ({ cls := "Residueworks$Conditions", name := "<init>", desc := "()V" } : Jvm.MethodName)) ∈ zTg := zt_2 (i := 53) rfl rfl
theorem zw_2_54 : (Jvm.Cond.classLink "Residueworks$Theorem" (39 : Nat) "Residueworks$Text") ∈ zTg := zt_2 (i := 54) rfl rfl
theorem zw_2_55 : (Jvm.Cond.methodLinkNest "Residueworks$Theorem" (41 : Nat) ({ cls := "Residueworks$Text", name := "<init>", desc := "()V" } : Jvm.MethodName) "Residueworks") ∈ zTn := zn_2 (i := 55) rfl rfl
theorem zw_2_56 : (Jvm.Cond.classLink "Residueworks$Theorem" (46 : Nat) "Residueworks$Row") ∈ zTg := zt_2 (i := 56) rfl rfl
theorem zw_2_57 : (Jvm.Cond.methodLinkNest "Residueworks$Theorem" (48 : Nat) ({ cls := "Residueworks$Row", name := "<init>", desc := "()V" } : Jvm.MethodName) "Residueworks") ∈ zTn := zn_2 (i := 57) rfl rfl
theorem zw_2_58 : (Jvm.Cond.classLink "Residueworks$Theorem" (53 : Nat) "Residueworks$Whole") ∈ zTg := zt_2 (i := 58) rfl rfl
theorem zw_2_59 : (Jvm.Cond.methodLinkNest "Residueworks$Theorem" (55 : Nat) ({ cls := "Residueworks$Whole", name := "<init>", desc := "()V" } : Jvm.MethodName) "Residueworks") ∈ zTn := zn_2 (i := 59) rfl rfl
theorem zw_2_60 : (Jvm.Cond.methodLink "Residueworks$Theorem" (84 : Nat) ({ cls := "Residueworks$Whole", name := "becomeLong", desc := "(J)V" } : Jvm.MethodName)) ∈ zTg := zt_2 (i := 60) rfl rfl
theorem zw_2_61 : (Jvm.Cond.instanceMethod ({ cls := "Residueworks$Whole", name := "becomeLong", desc := "(J)V" } : Jvm.MethodName)) ∈ zTg := zt_2 (i := 61) rfl rfl
theorem zw_2_62 : (Jvm.Cond.selects "Residueworks$Whole" ({ cls := "Residueworks$Whole", name := "becomeLong", desc := "(J)V" } : Jvm.MethodName) ({ cls := "Residueworks$Whole", name := "becomeLong", desc := "(J)V" } : Jvm.MethodName)) ∈ zTg := zt_2 (i := 62) rfl rfl
theorem zw_2_63 : (Jvm.Cond.code ({ cls := "Residueworks$Whole", name := "becomeLong", desc := "(J)V" } : Jvm.MethodName) prog_10_method_7_code (3 : Nat) (Option.none : Option Jvm.ClassFile.FieldType)) ∈ zTg := zt_2 (i := 63) rfl rfl
theorem zw_2_64 : (Jvm.Cond.methodLink "Residueworks$Whole" (30 : Nat) ({ cls := "Residueworks$Whole", name := "becomeUnsigned", desc := "(J)V" } : Jvm.MethodName)) ∈ zTg := zt_2 (i := 64) rfl rfl
theorem zw_2_65 : (Jvm.Cond.instanceMethod ({ cls := "Residueworks$Whole", name := "becomeUnsigned", desc := "(J)V" } : Jvm.MethodName)) ∈ zTg := zt_2 (i := 65) rfl rfl
theorem zw_2_66 : (Jvm.Cond.selects "Residueworks$Whole" ({ cls := "Residueworks$Whole", name := "becomeUnsigned", desc := "(J)V" } : Jvm.MethodName) ({ cls := "Residueworks$Whole", name := "becomeUnsigned", desc := "(J)V" } : Jvm.MethodName)) ∈ zTg := zt_2 (i := 66) rfl rfl
theorem zw_2_67 : (Jvm.Cond.code ({ cls := "Residueworks$Whole", name := "becomeUnsigned", desc := "(J)V" } : Jvm.MethodName) prog_10_method_8_code (3 : Nat) (Option.none : Option Jvm.ClassFile.FieldType)) ∈ zTg := zt_2 (i := 67) rfl rfl
theorem zw_2_68 : (Jvm.Cond.constantLong "Residueworks$Whole" (34 : Nat) (1073741823 : Int64)) ∈ zTg := zt_2 (i := 68) rfl rfl
theorem zw_2_69 : (Jvm.Cond.methodLink "Residueworks$Whole" (36 : Nat) ({ cls := "Residueworks$Whole", name := "setLimb", desc := "(II)V" } : Jvm.MethodName)) ∈ zTg := zt_2 (i := 69) rfl rfl
theorem zw_2_70 : (Jvm.Cond.instanceMethod ({ cls := "Residueworks$Whole", name := "setLimb", desc := "(II)V" } : Jvm.MethodName)) ∈ zTg := zt_2 (i := 70) rfl rfl
theorem zw_2_71 : (Jvm.Cond.selects "Residueworks$Whole" ({ cls := "Residueworks$Whole", name := "setLimb", desc := "(II)V" } : Jvm.MethodName) ({ cls := "Residueworks$Whole", name := "setLimb", desc := "(II)V" } : Jvm.MethodName)) ∈ zTg := zt_2 (i := 71) rfl rfl
theorem zw_2_72 : (Jvm.Cond.code ({ cls := "Residueworks$Whole", name := "setLimb", desc := "(II)V" } : Jvm.MethodName) prog_10_method_3_code (3 : Nat) (Option.none : Option Jvm.ClassFile.FieldType)) ∈ zTg := zt_2 (i := 72) rfl rfl
theorem zw_2_73 : (Jvm.Cond.methodLink "Residueworks$Whole" (40 : Nat) ({ cls := "Residueworks$Whole", name := "settle", desc := "(II)V" } : Jvm.MethodName)) ∈ zTg := zt_2 (i := 73) rfl rfl
theorem zw_2_74 : (Jvm.Cond.instanceMethod ({ cls := "Residueworks$Whole", name := "settle", desc := "(II)V" } : Jvm.MethodName)) ∈ zTg := zt_2 (i := 74) rfl rfl
theorem zw_2_75 : (Jvm.Cond.selects "Residueworks$Whole" ({ cls := "Residueworks$Whole", name := "settle", desc := "(II)V" } : Jvm.MethodName) ({ cls := "Residueworks$Whole", name := "settle", desc := "(II)V" } : Jvm.MethodName)) ∈ zTg := zt_2 (i := 75) rfl rfl
theorem zw_2_76 : (Jvm.Cond.code ({ cls := "Residueworks$Whole", name := "settle", desc := "(II)V" } : Jvm.MethodName) prog_10_method_4_code (4 : Nat) (Option.none : Option Jvm.ClassFile.FieldType)) ∈ zTg := zt_2 (i := 76) rfl rfl
theorem zw_2_77 : (Jvm.Cond.constantLong "Residueworks$Theorem" (88 : Nat) (-1 : Int64)) ∈ zTg := zt_2 (i := 77) rfl rfl
theorem zw_2_78 : (Jvm.Cond.fieldLink "Residueworks$Theorem" (12 : Nat) "Residueworks$Theorem" "division" "LResidueworks$Division;") ∈ zTg := zt_2 (i := 78) rfl rfl
theorem zw_2_79 : (Jvm.Cond.fieldLink "Residueworks$Theorem" (21 : Nat) "Residueworks$Theorem" "residues" "LResidueworks$Residues;") ∈ zTg := zt_2 (i := 79) rfl rfl
theorem zw_2_80 : (Jvm.Cond.fieldLink "Residueworks$Theorem" (28 : Nat) "Residueworks$Theorem" "roots" "LResidueworks$Roots;") ∈ zTg := zt_2 (i := 80) rfl rfl
theorem zw_2_81 : (Jvm.Cond.fieldLink "Residueworks$Theorem" (35 : Nat) "Residueworks$Theorem" "conditions" "LResidueworks$Conditions;") ∈ zTg := zt_2 (i := 81) rfl rfl
theorem zw_2_82 : (Jvm.Cond.fieldLink "Residueworks$Theorem" (42 : Nat) "Residueworks$Theorem" "text" "LResidueworks$Text;") ∈ zTg := zt_2 (i := 82) rfl rfl
theorem zw_2_83 : (Jvm.Cond.fieldLink "Residueworks$Theorem" (49 : Nat) "Residueworks$Theorem" "row" "LResidueworks$Row;") ∈ zTg := zt_2 (i := 83) rfl rfl
theorem zw_2_84 : (Jvm.Cond.fieldLink "Residueworks$Theorem" (56 : Nat) "Residueworks$Theorem" "one" "LResidueworks$Whole;") ∈ zTg := zt_2 (i := 84) rfl rfl
theorem zw_2_85 : (Jvm.Cond.fieldLink "Residueworks$Theorem" (60 : Nat) "Residueworks$Theorem" "minusOne" "LResidueworks$Whole;") ∈ zTg := zt_2 (i := 85) rfl rfl
theorem zw_2_86 : (Jvm.Cond.fieldLink "Residueworks$Theorem" (63 : Nat) "Residueworks$Theorem" "a" "LResidueworks$Whole;") ∈ zTg := zt_2 (i := 86) rfl rfl
theorem zw_2_87 : (Jvm.Cond.fieldLink "Residueworks$Theorem" (66 : Nat) "Residueworks$Theorem" "b" "LResidueworks$Whole;") ∈ zTg := zt_2 (i := 87) rfl rfl
theorem zw_2_88 : (Jvm.Cond.fieldLink "Residueworks$Theorem" (69 : Nat) "Residueworks$Theorem" "c" "LResidueworks$Whole;") ∈ zTg := zt_2 (i := 88) rfl rfl
theorem zw_2_89 : (Jvm.Cond.fieldLink "Residueworks$Theorem" (72 : Nat) "Residueworks$Theorem" "d" "LResidueworks$Whole;") ∈ zTg := zt_2 (i := 89) rfl rfl
theorem zw_2_90 : (Jvm.Cond.fieldLink "Residueworks$Theorem" (75 : Nat) "Residueworks$Theorem" "inverse" "LResidueworks$Whole;") ∈ zTg := zt_2 (i := 90) rfl rfl
theorem zw_2_91 : (Jvm.Cond.fieldLink "Residueworks$Theorem" (78 : Nat) "Residueworks$Theorem" "exponentOne" "LResidueworks$Whole;") ∈ zTg := zt_2 (i := 91) rfl rfl
theorem zw_2_92 : (Jvm.Cond.fieldLink "Residueworks$Theorem" (81 : Nat) "Residueworks$Theorem" "exponentTwo" "LResidueworks$Whole;") ∈ zTg := zt_2 (i := 92) rfl rfl
theorem zw_2_93 : (Jvm.Cond.laysFinal "Residueworks$Theorem" "Residueworks$Theorem" "division" "LResidueworks$Division;") ∈ zTg := zt_2 (i := 93) rfl rfl
theorem zw_2_95 : (Jvm.Cond.laysFinal "Residueworks$Theorem" "Residueworks$Theorem" "residues" "LResidueworks$Residues;") ∈ zTg := zt_2 (i := 95) rfl rfl
theorem zw_2_97 : (Jvm.Cond.laysFinal "Residueworks$Theorem" "Residueworks$Theorem" "roots" "LResidueworks$Roots;") ∈ zTg := zt_2 (i := 97) rfl rfl
theorem zw_2_99 : (Jvm.Cond.laysFinal "Residueworks$Theorem" "Residueworks$Theorem" "conditions" "LResidueworks$Conditions;") ∈ zTg := zt_2 (i := 99) rfl rfl
theorem zw_2_101 : (Jvm.Cond.laysFinal "Residueworks$Theorem" "Residueworks$Theorem" "text" "LResidueworks$Text;") ∈ zTg := zt_2 (i := 101) rfl rfl
theorem zw_2_103 : (Jvm.Cond.laysFinal "Residueworks$Theorem" "Residueworks$Theorem" "row" "LResidueworks$Row;") ∈ zTg := zt_2 (i := 103) rfl rfl
theorem zw_2_105 : (Jvm.Cond.laysFinal "Residueworks$Theorem" "Residueworks$Theorem" "one" "LResidueworks$Whole;") ∈ zTg := zt_2 (i := 105) rfl rfl
theorem zw_2_107 : (Jvm.Cond.laysFinal "Residueworks$Theorem" "Residueworks$Theorem" "minusOne" "LResidueworks$Whole;") ∈ zTg := zt_2 (i := 107) rfl rfl
theorem zw_2_109 : (Jvm.Cond.laysFinal "Residueworks$Theorem" "Residueworks$Theorem" "a" "LResidueworks$Whole;") ∈ zTg := zt_2 (i := 109) rfl rfl
theorem zw_2_111 : (Jvm.Cond.laysFinal "Residueworks$Theorem" "Residueworks$Theorem" "b" "LResidueworks$Whole;") ∈ zTg := zt_2 (i := 111) rfl rfl
theorem zw_2_113 : (Jvm.Cond.laysFinal "Residueworks$Theorem" "Residueworks$Theorem" "c" "LResidueworks$Whole;") ∈ zTg := zt_2 (i := 113) rfl rfl
theorem zw_2_115 : (Jvm.Cond.laysFinal "Residueworks$Theorem" "Residueworks$Theorem" "d" "LResidueworks$Whole;") ∈ zTg := zt_2 (i := 115) rfl rfl
theorem zw_2_117 : (Jvm.Cond.laysFinal "Residueworks$Theorem" "Residueworks$Theorem" "inverse" "LResidueworks$Whole;") ∈ zTg := zt_2 (i := 117) rfl rfl
theorem zw_2_119 : (Jvm.Cond.laysFinal "Residueworks$Theorem" "Residueworks$Theorem" "exponentOne" "LResidueworks$Whole;") ∈ zTg := zt_2 (i := 119) rfl rfl
theorem zw_2_121 : (Jvm.Cond.laysFinal "Residueworks$Theorem" "Residueworks$Theorem" "exponentTwo" "LResidueworks$Whole;") ∈ zTg := zt_2 (i := 121) rfl rfl
theorem zw_2_124 : (Jvm.Cond.methodLinkNest "Residueworks" (64 : Nat) ({ cls := "Residueworks$Whole", name := "<init>", desc := "()V" } : Jvm.MethodName) "Residueworks") ∈ zTn := zn_2 (i := 124) rfl rfl
theorem zw_2_125 : (Jvm.Cond.fieldLink "Residueworks" (11 : Nat) "Residueworks" "registers" "[LResidueworks$Whole;") ∈ zTg := zt_2 (i := 125) rfl rfl
theorem zw_2_126 : (Jvm.Cond.fieldLink "Residueworks" (18 : Nat) "Residueworks" "text" "LResidueworks$Text;") ∈ zTg := zt_2 (i := 126) rfl rfl
theorem zw_2_127 : (Jvm.Cond.fieldLink "Residueworks" (25 : Nat) "Residueworks" "row" "LResidueworks$Row;") ∈ zTg := zt_2 (i := 127) rfl rfl
theorem zw_2_128 : (Jvm.Cond.fieldLink "Residueworks" (32 : Nat) "Residueworks" "division" "LResidueworks$Division;") ∈ zTg := zt_2 (i := 128) rfl rfl
theorem zw_2_129 : (Jvm.Cond.fieldLink "Residueworks" (39 : Nat) "Residueworks" "residues" "LResidueworks$Residues;") ∈ zTg := zt_2 (i := 129) rfl rfl
theorem zw_2_130 : (Jvm.Cond.fieldLink "Residueworks" (46 : Nat) "Residueworks" "roots" "LResidueworks$Roots;") ∈ zTg := zt_2 (i := 130) rfl rfl
theorem zw_2_131 : (Jvm.Cond.fieldLink "Residueworks" (53 : Nat) "Residueworks" "conditions" "LResidueworks$Conditions;") ∈ zTg := zt_2 (i := 131) rfl rfl
theorem zw_2_132 : (Jvm.Cond.fieldLink "Residueworks" (60 : Nat) "Residueworks" "theorem" "LResidueworks$Theorem;") ∈ zTg := zt_2 (i := 132) rfl rfl
theorem zw_2_133 : (Jvm.Cond.fieldLink "Residueworks" (65 : Nat) "Residueworks" "result" "LResidueworks$Whole;") ∈ zTg := zt_2 (i := 133) rfl rfl
theorem zw_2_134 : (Jvm.Cond.fieldLink "Residueworks" (69 : Nat) "Residueworks" "aside" "LResidueworks$Whole;") ∈ zTg := zt_2 (i := 134) rfl rfl
theorem zw_2_135 : (Jvm.Cond.laysFinal "Residueworks" "Residueworks" "registers" "[LResidueworks$Whole;") ∈ zTg := zt_2 (i := 135) rfl rfl
theorem zw_2_137 : (Jvm.Cond.laysFinal "Residueworks" "Residueworks" "text" "LResidueworks$Text;") ∈ zTg := zt_2 (i := 137) rfl rfl
theorem zw_2_139 : (Jvm.Cond.laysFinal "Residueworks" "Residueworks" "row" "LResidueworks$Row;") ∈ zTg := zt_2 (i := 139) rfl rfl
theorem zw_2_141 : (Jvm.Cond.laysFinal "Residueworks" "Residueworks" "division" "LResidueworks$Division;") ∈ zTg := zt_2 (i := 141) rfl rfl
theorem zw_2_143 : (Jvm.Cond.laysFinal "Residueworks" "Residueworks" "residues" "LResidueworks$Residues;") ∈ zTg := zt_2 (i := 143) rfl rfl
theorem zw_2_145 : (Jvm.Cond.laysFinal "Residueworks" "Residueworks" "roots" "LResidueworks$Roots;") ∈ zTg := zt_2 (i := 145) rfl rfl
theorem zw_2_147 : (Jvm.Cond.laysFinal "Residueworks" "Residueworks" "conditions" "LResidueworks$Conditions;") ∈ zTg := zt_2 (i := 147) rfl rfl
theorem zw_2_149 : (Jvm.Cond.laysFinal "Residueworks" "Residueworks" "theorem" "LResidueworks$Theorem;") ∈ zTg := zt_2 (i := 149) rfl rfl
theorem zw_2_151 : (Jvm.Cond.laysFinal "Residueworks" "Residueworks" "result" "LResidueworks$Whole;") ∈ zTg := zt_2 (i := 151) rfl rfl
theorem zw_2_153 : (Jvm.Cond.laysFinal "Residueworks" "Residueworks" "aside" "LResidueworks$Whole;") ∈ zTg := zt_2 (i := 153) rfl rfl
theorem zw_2_226 : (Jvm.Cond.classLink "ResidueworksLaw" (13 : Nat) "java/lang/IndexOutOfBoundsException") ∈ zTg := zt_2 (i := 226) rfl rfl
theorem zw_3_61 : (Jvm.Cond.laysFinal "java/lang/String" "java/lang/String" "value" "[B") ∈ zTg := zt_3 (i := 61) rfl rfl
theorem zw_3_63 : (Jvm.Cond.laysFinal "java/lang/String" "java/lang/String" "coder" "B") ∈ zTg := zt_3 (i := 63) rfl rfl
theorem zw_3_69 : (Jvm.Cond.methodLink "Residueworks" (72 : Nat) ({ cls := "Residueworks", name := "numberOf", desc := "(I)LResidueworks$Whole;" } : Jvm.MethodName)) ∈ zTg := zt_3 (i := 69) rfl rfl
theorem zw_3_71 : (Jvm.Cond.instanceMethod ({ cls := "Residueworks", name := "numberOf", desc := "(I)LResidueworks$Whole;" } : Jvm.MethodName)) ∈ zTg := zt_3 (i := 71) rfl rfl
theorem zw_3_72 : (Jvm.Cond.code ({ cls := "Residueworks", name := "numberOf", desc := "(I)LResidueworks$Whole;" } : Jvm.MethodName) prog_1_method_43_code (2 : Nat) (Option.some (Jvm.ClassFile.FieldType.object "Residueworks$Whole"))) ∈ zTg := zt_3 (i := 72) rfl rfl
theorem zw_3_75 : (Jvm.Cond.castable "java/lang/IndexOutOfBoundsException" "java/lang/IndexOutOfBoundsException") ∈ zTn := zn_3 (i := 75) rfl rfl
theorem zw_3_133 : (Jvm.Cond.instanceMethod ({ cls := "Residueworks$Whole", name := "become", desc := "(LResidueworks$Whole;)V" } : Jvm.MethodName)) ∈ zTg := zt_3 (i := 133) rfl rfl
theorem zw_3_134 : (Jvm.Cond.selects "Residueworks$Whole" ({ cls := "Residueworks$Whole", name := "become", desc := "(LResidueworks$Whole;)V" } : Jvm.MethodName) ({ cls := "Residueworks$Whole", name := "become", desc := "(LResidueworks$Whole;)V" } : Jvm.MethodName)) ∈ zTg := zt_3 (i := 134) rfl rfl
theorem zw_3_135 : (Jvm.Cond.code ({ cls := "Residueworks$Whole", name := "become", desc := "(LResidueworks$Whole;)V" } : Jvm.MethodName) prog_10_method_5_code (2 : Nat) (Option.none : Option Jvm.ClassFile.FieldType)) ∈ zTg := zt_3 (i := 135) rfl rfl
theorem zw_3_136 : (Jvm.Cond.methodLink "Residueworks$Whole" (20 : Nat) ({ cls := "java/lang/System", name := "arraycopy", desc := "(Ljava/lang/Object;ILjava/lang/Object;II)V" } : Jvm.MethodName)) ∈ zTg := zt_3 (i := 136) rfl rfl
theorem zw_3_137 : (Jvm.Cond.static ({ cls := "java/lang/System", name := "arraycopy", desc := "(Ljava/lang/Object;ILjava/lang/Object;II)V" } : Jvm.MethodName)) ∈ zTg := zt_3 (i := 137) rfl rfl
theorem zw_3_138 : (Jvm.Cond.native ({ cls := "java/lang/System", name := "arraycopy", desc := "(Ljava/lang/Object;ILjava/lang/Object;II)V" } : Jvm.MethodName)) ∈ zTg := zt_3 (i := 138) rfl rfl
theorem zw_3_149 : (Jvm.Cond.classLink "ResidueworksLaw" (28 : Nat) "java/lang/IllegalArgumentException") ∈ zTg := zt_3 (i := 149) rfl rfl
theorem zw_3_154 : (Jvm.Cond.methodLink "Residueworks" (103 : Nat) ({ cls := "Residueworks", name := "needRange", desc := "(III)V" } : Jvm.MethodName)) ∈ zTg := zt_3 (i := 154) rfl rfl
theorem zw_3_156 : (Jvm.Cond.instanceMethod ({ cls := "Residueworks", name := "needRange", desc := "(III)V" } : Jvm.MethodName)) ∈ zTg := zt_3 (i := 156) rfl rfl
theorem zw_3_157 : (Jvm.Cond.code ({ cls := "Residueworks", name := "needRange", desc := "(III)V" } : Jvm.MethodName) prog_1_method_44_code (4 : Nat) (Option.none : Option Jvm.ClassFile.FieldType)) ∈ zTg := zt_3 (i := 157) rfl rfl
theorem zw_3_160 : (Jvm.Cond.castable "java/lang/IllegalArgumentException" "java/lang/IllegalArgumentException") ∈ zTn := zn_3 (i := 160) rfl rfl
theorem zw_4_64 : (Jvm.Cond.instanceMethod ({ cls := "Residueworks$Whole", name := "becomeAmountOf", desc := "(LResidueworks$Whole;)V" } : Jvm.MethodName)) ∈ zTg := zt_4 (i := 64) rfl rfl
theorem zw_4_65 : (Jvm.Cond.selects "Residueworks$Whole" ({ cls := "Residueworks$Whole", name := "becomeAmountOf", desc := "(LResidueworks$Whole;)V" } : Jvm.MethodName) ({ cls := "Residueworks$Whole", name := "becomeAmountOf", desc := "(LResidueworks$Whole;)V" } : Jvm.MethodName)) ∈ zTg := zt_4 (i := 65) rfl rfl
theorem zw_4_66 : (Jvm.Cond.code ({ cls := "Residueworks$Whole", name := "becomeAmountOf", desc := "(LResidueworks$Whole;)V" } : Jvm.MethodName) prog_10_method_6_code (2 : Nat) (Option.none : Option Jvm.ClassFile.FieldType)) ∈ zTg := zt_4 (i := 66) rfl rfl
theorem zw_4_67 : (Jvm.Cond.methodLink "Residueworks$Whole" (26 : Nat) ({ cls := "Residueworks$Whole", name := "become", desc := "(LResidueworks$Whole;)V" } : Jvm.MethodName)) ∈ zTg := zt_4 (i := 67) rfl rfl
theorem zw_4_179 : (Jvm.Cond.instanceMethod ({ cls := "Residueworks$Text", name := "append", desc := "(C)V" } : Jvm.MethodName)) ∈ zTg := zt_4 (i := 179) rfl rfl
theorem zw_4_180 : (Jvm.Cond.selects "Residueworks$Text" ({ cls := "Residueworks$Text", name := "append", desc := "(C)V" } : Jvm.MethodName) ({ cls := "Residueworks$Text", name := "append", desc := "(C)V" } : Jvm.MethodName)) ∈ zTg := zt_4 (i := 180) rfl rfl
theorem zw_4_181 : (Jvm.Cond.code ({ cls := "Residueworks$Text", name := "append", desc := "(C)V" } : Jvm.MethodName) prog_8_method_3_code (2 : Nat) (Option.none : Option Jvm.ClassFile.FieldType)) ∈ zTg := zt_4 (i := 181) rfl rfl
theorem zw_4_209 : (Jvm.Cond.methodLink "ResidueworksLaw" (220 : Nat) ({ cls := "ResidueworksLaw", name := "write", desc := "(LResidueworks;II[J)I" } : Jvm.MethodName)) ∈ zTg := zt_4 (i := 209) rfl rfl
theorem zw_4_210 : (Jvm.Cond.static ({ cls := "ResidueworksLaw", name := "write", desc := "(LResidueworks;II[J)I" } : Jvm.MethodName)) ∈ zTg := zt_4 (i := 210) rfl rfl
theorem zw_4_211 : (Jvm.Cond.codeWith ({ cls := "ResidueworksLaw", name := "write", desc := "(LResidueworks;II[J)I" } : Jvm.MethodName) method_20_code (5 : Nat) (Option.some Jvm.ClassFile.FieldType.int) [((0 : Nat), (10 : Nat), (13 : Nat), (13 : Nat)), ((0 : Nat), (10 : Nat), (17 : Nat), (28 : Nat))]) ∈ zTg := zt_4 (i := 211) rfl rfl
theorem zw_4_212 : (Jvm.Cond.methodLink "ResidueworksLaw" (81 : Nat) ({ cls := "Residueworks", name := "write", desc := "(II)I" } : Jvm.MethodName)) ∈ zTg := zt_4 (i := 212) rfl rfl
theorem zw_4_213 : (Jvm.Cond.instanceMethod ({ cls := "Residueworks", name := "write", desc := "(II)I" } : Jvm.MethodName)) ∈ zTg := zt_4 (i := 213) rfl rfl
theorem zw_4_214 : (Jvm.Cond.selects "Residueworks" ({ cls := "Residueworks", name := "write", desc := "(II)I" } : Jvm.MethodName) ({ cls := "Residueworks", name := "write", desc := "(II)I" } : Jvm.MethodName)) ∈ zTg := zt_4 (i := 214) rfl rfl
theorem zw_4_215 : (Jvm.Cond.code ({ cls := "Residueworks", name := "write", desc := "(II)I" } : Jvm.MethodName) prog_1_method_20_code (4 : Nat) (Option.some Jvm.ClassFile.FieldType.int)) ∈ zTg := zt_4 (i := 215) rfl rfl
theorem zw_4_216 : (Jvm.Cond.methodLink "Residueworks" (222 : Nat) ({ cls := "Residueworks$Text", name := "show", desc := "(LResidueworks$Whole;I)V" } : Jvm.MethodName)) ∈ zTg := zt_4 (i := 216) rfl rfl
theorem zw_4_217 : (Jvm.Cond.instanceMethod ({ cls := "Residueworks$Text", name := "show", desc := "(LResidueworks$Whole;I)V" } : Jvm.MethodName)) ∈ zTg := zt_4 (i := 217) rfl rfl
theorem zw_4_218 : (Jvm.Cond.selects "Residueworks$Text" ({ cls := "Residueworks$Text", name := "show", desc := "(LResidueworks$Whole;I)V" } : Jvm.MethodName) ({ cls := "Residueworks$Text", name := "show", desc := "(LResidueworks$Whole;I)V" } : Jvm.MethodName)) ∈ zTg := zt_4 (i := 218) rfl rfl
theorem zw_4_219 : (Jvm.Cond.code ({ cls := "Residueworks$Text", name := "show", desc := "(LResidueworks$Whole;I)V" } : Jvm.MethodName) prog_8_method_5_code (4 : Nat) (Option.none : Option Jvm.ClassFile.FieldType)) ∈ zTg := zt_4 (i := 219) rfl rfl
theorem zw_4_220 : (Jvm.Cond.methodLink "Residueworks$Text" (24 : Nat) ({ cls := "Residueworks$Whole", name := "becomeAmountOf", desc := "(LResidueworks$Whole;)V" } : Jvm.MethodName)) ∈ zTg := zt_4 (i := 220) rfl rfl
theorem zw_4_221 : (Jvm.Cond.methodLink "Residueworks$Text" (31 : Nat) ({ cls := "Residueworks$Text", name := "append", desc := "(C)V" } : Jvm.MethodName)) ∈ zTg := zt_4 (i := 221) rfl rfl
theorem zw_4_229 : (Jvm.Cond.methodLink "Residueworks$Text" (43 : Nat) ({ cls := "Residueworks$Text", name := "turnRound", desc := "()V" } : Jvm.MethodName)) ∈ zTg := zt_4 (i := 229) rfl rfl
theorem zw_4_231 : (Jvm.Cond.instanceMethod ({ cls := "Residueworks$Text", name := "turnRound", desc := "()V" } : Jvm.MethodName)) ∈ zTg := zt_4 (i := 231) rfl rfl
theorem zw_4_232 : (Jvm.Cond.code ({ cls := "Residueworks$Text", name := "turnRound", desc := "()V" } : Jvm.MethodName) prog_8_method_6_code (4 : Nat) (Option.none : Option Jvm.ClassFile.FieldType)) ∈ zTg := zt_4 (i := 232) rfl rfl
theorem zws_5 : Cond.selects "Residueworks" ⟨"Residueworks", "needRange", "(III)V"⟩ ⟨"Residueworks", "needRange", "(III)V"⟩ ∈ zTg := zsel (i := 5) (q := (⟨"Residueworks", "needRange", "(III)V"⟩, 10)) (by decide +kernel)
theorem zw_6_193 : (Jvm.Cond.classLink "ResidueworksLaw" (144 : Nat) "ResidueworksModel") ∈ zTg := zt_6 (i := 193) rfl rfl
theorem zw_6_194 : (Jvm.Cond.instantiable "ResidueworksModel" (6 : Nat)) ∈ zTg := zt_6 (i := 194) rfl rfl
theorem zw_6_195 : (Jvm.Cond.methodLink "ResidueworksLaw" (146 : Nat) ({ cls := "ResidueworksModel", name := "<init>", desc := "()V" } : Jvm.MethodName)) ∈ zTg := zt_6 (i := 195) rfl rfl
theorem zw_6_196 : (Jvm.Cond.instanceMethod ({ cls := "ResidueworksModel", name := "<init>", desc := "()V" } : Jvm.MethodName)) ∈ zTg := zt_6 (i := 196) rfl rfl
theorem zw_6_197 : (Jvm.Cond.code ({ cls := "ResidueworksModel", name := "<init>", desc := "()V" } : Jvm.MethodName) prog_12_method_22_code (2 : Nat) (Option.none : Option Jvm.ClassFile.FieldType)) ∈ zTg := zt_6 (i := 197) rfl rfl
theorem zw_6_198 : (Jvm.Cond.methodLink "ResidueworksModel" (139 : Nat) ({ cls := "java/lang/Object", name := "<init>", desc := "()V" } : Jvm.MethodName)) ∈ zTg := zt_6 (i := 198) rfl rfl
theorem zw_6_199 : (Jvm.Cond.classLink "ResidueworksModel" (62 : Nat) "ResidueworksModel$Whole") ∈ zTg := zt_6 (i := 199) rfl rfl
theorem zw_6_200 : (Jvm.Cond.arrayOver (Jvm.ClassFile.FieldType.object "ResidueworksModel$Whole")) ∈ zTn := zn_6 (i := 200) rfl rfl
theorem zw_6_201 : (Jvm.Cond.classLink "ResidueworksModel" (148 : Nat) "java/lang/StringBuilder") ∈ zTg := zt_6 (i := 201) rfl rfl
theorem zw_6_202 : (Jvm.Cond.instantiable "java/lang/StringBuilder" (4 : Nat)) ∈ zTg := zt_6 (i := 202) rfl rfl
theorem zw_6_203 : (Jvm.Cond.methodLink "ResidueworksModel" (150 : Nat) ({ cls := "java/lang/StringBuilder", name := "<init>", desc := "()V" } : Jvm.MethodName)) ∈ zTg := zt_6 (i := 203) rfl rfl
theorem zw_6_204 : (Jvm.Cond.instanceMethod ({ cls := "java/lang/StringBuilder", name := "<init>", desc := "()V" } : Jvm.MethodName)) ∈ zTg := zt_6 (i := 204) rfl rfl
theorem zw_6_205 : (Jvm.Cond.code ({ cls := "java/lang/StringBuilder", name := "<init>", desc := "()V" } : Jvm.MethodName) prog_34_method_1_code (1 : Nat) (Option.none : Option Jvm.ClassFile.FieldType)) ∈ zTg := zt_6 (i := 205) rfl rfl
theorem zw_6_206 : (Jvm.Cond.methodLink "java/lang/StringBuilder" (1 : Nat) ({ cls := "java/lang/AbstractStringBuilder", name := "<init>", desc := "(I)V" } : Jvm.MethodName)) ∈ zTg := zt_6 (i := 206) rfl rfl
theorem zw_6_207 : (Jvm.Cond.instanceMethod ({ cls := "java/lang/AbstractStringBuilder", name := "<init>", desc := "(I)V" } : Jvm.MethodName)) ∈ zTg := zt_6 (i := 207) rfl rfl
theorem zw_6_208 : (Jvm.Cond.code ({ cls := "java/lang/AbstractStringBuilder", name := "<init>", desc := "(I)V" } : Jvm.MethodName) prog_15_method_2_code (2 : Nat) (Option.none : Option Jvm.ClassFile.FieldType)) ∈ zTg := zt_6 (i := 208) rfl rfl
theorem zw_6_209 : (Jvm.Cond.methodLink "java/lang/AbstractStringBuilder" (3 : Nat) ({ cls := "java/lang/Object", name := "<init>", desc := "()V" } : Jvm.MethodName)) ∈ zTg := zt_6 (i := 209) rfl rfl
theorem zw_6_210 : (Jvm.Cond.fieldLink "java/lang/AbstractStringBuilder" (18 : Nat) "java/lang/String" "COMPACT_STRINGS" "Z") ∈ zTg := zt_6 (i := 210) rfl rfl
theorem zw_6_219 : (Jvm.Cond.fieldLink "java/lang/AbstractStringBuilder" (15 : Nat) "java/lang/AbstractStringBuilder" "value" "[B") ∈ zTg := zt_6 (i := 219) rfl rfl
theorem zw_6_220 : (Jvm.Cond.fieldLink "java/lang/AbstractStringBuilder" (22 : Nat) "java/lang/AbstractStringBuilder" "coder" "B") ∈ zTg := zt_6 (i := 220) rfl rfl
theorem zw_6_224 : (Jvm.Cond.lays "java/lang/StringBuilder" "java/lang/AbstractStringBuilder" "value" "[B") ∈ zTg := zt_6 (i := 224) rfl rfl
theorem zw_6_226 : (Jvm.Cond.lays "java/lang/StringBuilder" "java/lang/AbstractStringBuilder" "coder" "B") ∈ zTg := zt_6 (i := 226) rfl rfl
theorem zw_6_228 : (Jvm.Cond.lays "java/lang/StringBuilder" "java/lang/AbstractStringBuilder" "maybeLatin1" "Z") ∈ zTg := zt_6 (i := 228) rfl rfl
theorem zw_6_230 : (Jvm.Cond.lays "java/lang/StringBuilder" "java/lang/AbstractStringBuilder" "count" "I") ∈ zTg := zt_6 (i := 230) rfl rfl
theorem zw_6_233 : (Jvm.Cond.classLink "ResidueworksModel" (155 : Nat) "java/util/ArrayList") ∈ zTg := zt_6 (i := 233) rfl rfl
theorem zw_6_234 : (Jvm.Cond.instantiable "java/util/ArrayList" (3 : Nat)) ∈ zTg := zt_6 (i := 234) rfl rfl
theorem zw_6_235 : (Jvm.Cond.methodLink "ResidueworksModel" (157 : Nat) ({ cls := "java/util/ArrayList", name := "<init>", desc := "()V" } : Jvm.MethodName)) ∈ zTg := zt_6 (i := 235) rfl rfl
theorem zw_6_236 : (Jvm.Cond.instanceMethod ({ cls := "java/util/ArrayList", name := "<init>", desc := "()V" } : Jvm.MethodName)) ∈ zTg := zt_6 (i := 236) rfl rfl
theorem zw_6_237 : (Jvm.Cond.code ({ cls := "java/util/ArrayList", name := "<init>", desc := "()V" } : Jvm.MethodName) prog_44_method_2_code (1 : Nat) (Option.none : Option Jvm.ClassFile.FieldType)) ∈ zTg := zt_6 (i := 237) rfl rfl
theorem zw_6_238 : (Jvm.Cond.methodLink "java/util/ArrayList" (1 : Nat) ({ cls := "java/util/AbstractList", name := "<init>", desc := "()V" } : Jvm.MethodName)) ∈ zTg := zt_6 (i := 238) rfl rfl
theorem zw_6_239 : (Jvm.Cond.instanceMethod ({ cls := "java/util/AbstractList", name := "<init>", desc := "()V" } : Jvm.MethodName)) ∈ zTg := zt_6 (i := 239) rfl rfl
theorem zw_7_0 : (Jvm.Cond.code ({ cls := "java/util/AbstractList", name := "<init>", desc := "()V" } : Jvm.MethodName) prog_43_method_1_code (1 : Nat) (Option.none : Option Jvm.ClassFile.FieldType)) ∈ zTg := zt_7 (i := 0) rfl rfl
theorem zw_7_1 : (Jvm.Cond.methodLink "java/util/AbstractList" (1 : Nat) ({ cls := "java/util/AbstractCollection", name := "<init>", desc := "()V" } : Jvm.MethodName)) ∈ zTg := zt_7 (i := 1) rfl rfl
theorem zw_7_2 : (Jvm.Cond.instanceMethod ({ cls := "java/util/AbstractCollection", name := "<init>", desc := "()V" } : Jvm.MethodName)) ∈ zTg := zt_7 (i := 2) rfl rfl
theorem zw_7_3 : (Jvm.Cond.code ({ cls := "java/util/AbstractCollection", name := "<init>", desc := "()V" } : Jvm.MethodName) prog_42_method_1_code (1 : Nat) (Option.none : Option Jvm.ClassFile.FieldType)) ∈ zTg := zt_7 (i := 3) rfl rfl
theorem zw_7_4 : (Jvm.Cond.methodLink "java/util/AbstractCollection" (1 : Nat) ({ cls := "java/lang/Object", name := "<init>", desc := "()V" } : Jvm.MethodName)) ∈ zTg := zt_7 (i := 4) rfl rfl
theorem zw_7_5 : (Jvm.Cond.fieldLink "java/util/ArrayList" (39 : Nat) "java/util/ArrayList" "DEFAULTCAPACITY_EMPTY_ELEMENTDATA" "[Ljava/lang/Object;") ∈ zTg := zt_7 (i := 5) rfl rfl
theorem zw_7_7 : (Jvm.Cond.fieldLink "java/util/ArrayList" (9 : Nat) "java/util/ArrayList" "elementData" "[Ljava/lang/Object;") ∈ zTg := zt_7 (i := 7) rfl rfl
theorem zw_7_11 : (Jvm.Cond.fieldLink "java/util/AbstractList" (7 : Nat) "java/util/AbstractList" "modCount" "I") ∈ zTg := zt_7 (i := 11) rfl rfl
theorem zw_7_15 : (Jvm.Cond.lays "java/util/ArrayList" "java/util/ArrayList" "elementData" "[Ljava/lang/Object;") ∈ zTg := zt_7 (i := 15) rfl rfl
theorem zw_7_17 : (Jvm.Cond.lays "java/util/ArrayList" "java/util/ArrayList" "size" "I") ∈ zTg := zt_7 (i := 17) rfl rfl
theorem zw_7_19 : (Jvm.Cond.lays "java/util/ArrayList" "java/util/AbstractList" "modCount" "I") ∈ zTg := zt_7 (i := 19) rfl rfl
theorem zw_7_22 : (Jvm.Cond.methodLink "ResidueworksModel" (68 : Nat) ({ cls := "ResidueworksModel", name := "of", desc := "(J)LResidueworksModel$Whole;" } : Jvm.MethodName)) ∈ zTg := zt_7 (i := 22) rfl rfl
theorem zw_7_23 : (Jvm.Cond.static ({ cls := "ResidueworksModel", name := "of", desc := "(J)LResidueworksModel$Whole;" } : Jvm.MethodName)) ∈ zTg := zt_7 (i := 23) rfl rfl
theorem zw_7_24 : (Jvm.Cond.code ({ cls := "ResidueworksModel", name := "of", desc := "(J)LResidueworksModel$Whole;" } : Jvm.MethodName) prog_12_method_13_code (6 : Nat) (Option.some (Jvm.ClassFile.FieldType.object "ResidueworksModel$Whole"))) ∈ zTg := zt_7 (i := 24) rfl rfl
theorem zw_7_25 : (Jvm.Cond.methodLink "ResidueworksModel" (58 : Nat) ({ cls := "java/lang/Math", name := "abs", desc := "(J)J" } : Jvm.MethodName)) ∈ zTg := zt_7 (i := 25) rfl rfl
theorem zw_7_26 : (Jvm.Cond.static ({ cls := "java/lang/Math", name := "abs", desc := "(J)J" } : Jvm.MethodName)) ∈ zTg := zt_7 (i := 26) rfl rfl
theorem zw_7_27 : (Jvm.Cond.code ({ cls := "java/lang/Math", name := "abs", desc := "(J)J" } : Jvm.MethodName) prog_30_method_61_code (2 : Nat) (Option.some Jvm.ClassFile.FieldType.long)) ∈ zTg := zt_7 (i := 27) rfl rfl
theorem zw_7_28 : (Jvm.Cond.constantLong "ResidueworksModel" (20 : Nat) (65535 : Int64)) ∈ zTg := zt_7 (i := 28) rfl rfl
theorem zw_7_29 : (Jvm.Cond.instantiable "ResidueworksModel$Whole" (2 : Nat)) ∈ zTg := zt_7 (i := 29) rfl rfl
theorem zw_7_30 : (Jvm.Cond.methodLink "ResidueworksModel" (14 : Nat) ({ cls := "ResidueworksModel", name := "cut", desc := "([I)[I" } : Jvm.MethodName)) ∈ zTg := zt_7 (i := 30) rfl rfl
theorem zw_7_31 : (Jvm.Cond.static ({ cls := "ResidueworksModel", name := "cut", desc := "([I)[I" } : Jvm.MethodName)) ∈ zTg := zt_7 (i := 31) rfl rfl
theorem zw_7_32 : (Jvm.Cond.code ({ cls := "ResidueworksModel", name := "cut", desc := "([I)[I" } : Jvm.MethodName) prog_12_method_1_code (3 : Nat) (Option.some (Jvm.ClassFile.FieldType.array Jvm.ClassFile.FieldType.int))) ∈ zTg := zt_7 (i := 32) rfl rfl
theorem zw_7_33 : (Jvm.Cond.methodLink "ResidueworksModel" (1 : Nat) ({ cls := "java/lang/System", name := "arraycopy", desc := "(Ljava/lang/Object;ILjava/lang/Object;II)V" } : Jvm.MethodName)) ∈ zTg := zt_7 (i := 33) rfl rfl
theorem zw_7_34 : (Jvm.Cond.methodLink "ResidueworksModel" (64 : Nat) ({ cls := "ResidueworksModel$Whole", name := "<init>", desc := "(I[I)V" } : Jvm.MethodName)) ∈ zTg := zt_7 (i := 34) rfl rfl
theorem zw_7_35 : (Jvm.Cond.instanceMethod ({ cls := "ResidueworksModel$Whole", name := "<init>", desc := "(I[I)V" } : Jvm.MethodName)) ∈ zTg := zt_7 (i := 35) rfl rfl
theorem zw_7_36 : (Jvm.Cond.code ({ cls := "ResidueworksModel$Whole", name := "<init>", desc := "(I[I)V" } : Jvm.MethodName) prog_13_method_1_code (3 : Nat) (Option.none : Option Jvm.ClassFile.FieldType)) ∈ zTg := zt_7 (i := 36) rfl rfl
theorem zw_7_37 : (Jvm.Cond.methodLink "ResidueworksModel$Whole" (1 : Nat) ({ cls := "java/lang/Object", name := "<init>", desc := "()V" } : Jvm.MethodName)) ∈ zTg := zt_7 (i := 37) rfl rfl
theorem zw_7_38 : (Jvm.Cond.fieldLink "ResidueworksModel$Whole" (7 : Nat) "ResidueworksModel$Whole" "sign" "I") ∈ zTg := zt_7 (i := 38) rfl rfl
theorem zw_7_40 : (Jvm.Cond.fieldLink "ResidueworksModel$Whole" (13 : Nat) "ResidueworksModel$Whole" "row" "[I") ∈ zTg := zt_7 (i := 40) rfl rfl
theorem zw_7_41 : (Jvm.Cond.fieldLinkNest "ResidueworksModel" (94 : Nat) "ResidueworksModel$Whole" "row" "[I" "ResidueworksModel") ∈ zTn := zn_7 (i := 41) rfl rfl
theorem zw_7_42 : (Jvm.Cond.laysFinal "ResidueworksModel$Whole" "ResidueworksModel$Whole" "sign" "I") ∈ zTg := zt_7 (i := 42) rfl rfl
theorem zw_7_44 : (Jvm.Cond.laysFinal "ResidueworksModel$Whole" "ResidueworksModel$Whole" "row" "[I") ∈ zTg := zt_7 (i := 44) rfl rfl
theorem zw_7_47 : (Jvm.Cond.fieldLink "ResidueworksModel" (144 : Nat) "ResidueworksModel" "registers" "[LResidueworksModel$Whole;") ∈ zTg := zt_7 (i := 47) rfl rfl
theorem zw_7_48 : (Jvm.Cond.fieldLink "ResidueworksModel" (151 : Nat) "ResidueworksModel" "text" "Ljava/lang/StringBuilder;") ∈ zTg := zt_7 (i := 48) rfl rfl
theorem zw_7_49 : (Jvm.Cond.fieldLink "ResidueworksModel" (158 : Nat) "ResidueworksModel" "row" "Ljava/util/List;") ∈ zTg := zt_7 (i := 49) rfl rfl
theorem zw_7_50 : (Jvm.Cond.fieldLink "ResidueworksModel" (161 : Nat) "ResidueworksModel" "rests" "Ljava/util/List;") ∈ zTg := zt_7 (i := 50) rfl rfl
theorem zw_7_51 : (Jvm.Cond.fieldLink "ResidueworksModel" (164 : Nat) "ResidueworksModel" "moduli" "Ljava/util/List;") ∈ zTg := zt_7 (i := 51) rfl rfl
theorem zw_7_52 : (Jvm.Cond.fieldLink "ResidueworksModel" (167 : Nat) "ResidueworksModel" "thrown" "I") ∈ zTg := zt_7 (i := 52) rfl rfl
theorem zw_7_53 : (Jvm.Cond.laysFinal "ResidueworksModel" "ResidueworksModel" "registers" "[LResidueworksModel$Whole;") ∈ zTg := zt_7 (i := 53) rfl rfl
theorem zw_7_55 : (Jvm.Cond.laysFinal "ResidueworksModel" "ResidueworksModel" "text" "Ljava/lang/StringBuilder;") ∈ zTg := zt_7 (i := 55) rfl rfl
theorem zw_7_57 : (Jvm.Cond.laysFinal "ResidueworksModel" "ResidueworksModel" "row" "Ljava/util/List;") ∈ zTg := zt_7 (i := 57) rfl rfl
theorem zw_7_59 : (Jvm.Cond.laysFinal "ResidueworksModel" "ResidueworksModel" "rests" "Ljava/util/List;") ∈ zTg := zt_7 (i := 59) rfl rfl
theorem zw_7_61 : (Jvm.Cond.laysFinal "ResidueworksModel" "ResidueworksModel" "moduli" "Ljava/util/List;") ∈ zTg := zt_7 (i := 61) rfl rfl
theorem zw_7_63 : (Jvm.Cond.lays "ResidueworksModel" "ResidueworksModel" "thrown" "I") ∈ zTg := zt_7 (i := 63) rfl rfl
theorem zw_7_74 : (Jvm.Cond.methodLink "ResidueworksModel" (176 : Nat) ({ cls := "ResidueworksModel", name := "are", desc := "([I)Z" } : Jvm.MethodName)) ∈ zTg := zt_7 (i := 74) rfl rfl
theorem zw_7_75 : (Jvm.Cond.static ({ cls := "ResidueworksModel", name := "are", desc := "([I)Z" } : Jvm.MethodName)) ∈ zTg := zt_7 (i := 75) rfl rfl
theorem zw_7_76 : (Jvm.Cond.code ({ cls := "ResidueworksModel", name := "are", desc := "([I)Z" } : Jvm.MethodName) prog_12_method_26_code (6 : Nat) (Option.some Jvm.ClassFile.FieldType.boolean)) ∈ zTg := zt_7 (i := 76) rfl rfl
theorem zw_7_77 : (Jvm.Cond.constantLong "ResidueworksModel" (170 : Nat) (7 : Int64)) ∈ zTg := zt_7 (i := 77) rfl rfl
theorem zw_7_78 : (Jvm.Cond.methodLink "ResidueworksModel" (172 : Nat) ({ cls := "ResidueworksModel", name := "in", desc := "(JJJ)Z" } : Jvm.MethodName)) ∈ zTg := zt_7 (i := 78) rfl rfl
theorem zw_7_79 : (Jvm.Cond.static ({ cls := "ResidueworksModel", name := "in", desc := "(JJJ)Z" } : Jvm.MethodName)) ∈ zTg := zt_7 (i := 79) rfl rfl
theorem zw_7_80 : (Jvm.Cond.code ({ cls := "ResidueworksModel", name := "in", desc := "(JJJ)Z" } : Jvm.MethodName) prog_12_method_25_code (6 : Nat) (Option.some Jvm.ClassFile.FieldType.boolean)) ∈ zTg := zt_7 (i := 80) rfl rfl
theorem zw_7_81 : (Jvm.Cond.methodLink "ResidueworksModel" (180 : Nat) ({ cls := "ResidueworksModel", name := "fails", desc := "(ZI)Z" } : Jvm.MethodName)) ∈ zTg := zt_7 (i := 81) rfl rfl
theorem zw_7_83 : (Jvm.Cond.instanceMethod ({ cls := "ResidueworksModel", name := "fails", desc := "(ZI)Z" } : Jvm.MethodName)) ∈ zTg := zt_7 (i := 83) rfl rfl
theorem zw_7_84 : (Jvm.Cond.code ({ cls := "ResidueworksModel", name := "fails", desc := "(ZI)Z" } : Jvm.MethodName) prog_12_method_24_code (3 : Nat) (Option.some Jvm.ClassFile.FieldType.boolean)) ∈ zTg := zt_7 (i := 84) rfl rfl
theorem zw_7_125 : (Jvm.Cond.fieldLink "ResidueworksModel" (28 : Nat) "ResidueworksModel" "NOTHING" "[I") ∈ zTg := zt_7 (i := 125) rfl rfl
theorem zw_8_72 : (Jvm.Cond.classLink "ResidueworksModel" (36 : Nat) "[I") ∈ zTg := zt_8 (i := 72) rfl rfl
theorem zw_8_73 : (Jvm.Cond.arrayOver (Jvm.ClassFile.FieldType.array Jvm.ClassFile.FieldType.int)) ∈ zTn := zn_8 (i := 73) rfl rfl
theorem zw_8_74 : (Jvm.Cond.methodLink "ResidueworksModel" (37 : Nat) ({ cls := "ResidueworksModel", name := "partedBySmall", desc := "([II)[[I" } : Jvm.MethodName)) ∈ zTg := zt_8 (i := 74) rfl rfl
theorem zw_8_75 : (Jvm.Cond.static ({ cls := "ResidueworksModel", name := "partedBySmall", desc := "([II)[[I" } : Jvm.MethodName)) ∈ zTg := zt_8 (i := 75) rfl rfl
theorem zw_8_76 : (Jvm.Cond.code ({ cls := "ResidueworksModel", name := "partedBySmall", desc := "([II)[[I" } : Jvm.MethodName) prog_12_method_12_code (8 : Nat) (Option.some (Jvm.ClassFile.FieldType.array (Jvm.ClassFile.FieldType.array Jvm.ClassFile.FieldType.int)))) ∈ zTg := zt_8 (i := 76) rfl rfl
theorem zw_9_176 : (Jvm.Cond.constantLong "ResidueworksModel" (273 : Nat) (2 : Int64)) ∈ zTg := zt_9 (i := 176) rfl rfl
theorem zw_9_177 : (Jvm.Cond.constantLong "ResidueworksModel" (275 : Nat) (36 : Int64)) ∈ zTg := zt_9 (i := 177) rfl rfl
theorem zw_9_181 : (Jvm.Cond.methodLink "ResidueworksLaw" (222 : Nat) ({ cls := "ResidueworksModel", name := "write", desc := "(II)I" } : Jvm.MethodName)) ∈ zTg := zt_9 (i := 181) rfl rfl
theorem zw_9_182 : (Jvm.Cond.instanceMethod ({ cls := "ResidueworksModel", name := "write", desc := "(II)I" } : Jvm.MethodName)) ∈ zTg := zt_9 (i := 182) rfl rfl
theorem zw_9_183 : (Jvm.Cond.selects "ResidueworksModel" ({ cls := "ResidueworksModel", name := "write", desc := "(II)I" } : Jvm.MethodName) ({ cls := "ResidueworksModel", name := "write", desc := "(II)I" } : Jvm.MethodName)) ∈ zTg := zt_9 (i := 183) rfl rfl
theorem zw_9_184 : (Jvm.Cond.code ({ cls := "ResidueworksModel", name := "write", desc := "(II)I" } : Jvm.MethodName) prog_12_method_53_code (7 : Nat) (Option.some Jvm.ClassFile.FieldType.int)) ∈ zTg := zt_9 (i := 184) rfl rfl
theorem zw_9_230 : (Jvm.Cond.laysFinal "java/lang/Integer" "java/lang/Integer" "value" "I") ∈ zTg := zt_9 (i := 230) rfl rfl
theorem zw_10_232 : (Jvm.Cond.lays "java/util/ArrayList$Itr" "java/util/ArrayList$Itr" "cursor" "I") ∈ zTg := zt_10 (i := 232) rfl rfl
theorem zw_10_234 : (Jvm.Cond.lays "java/util/ArrayList$Itr" "java/util/ArrayList$Itr" "lastRet" "I") ∈ zTg := zt_10 (i := 234) rfl rfl
theorem zw_10_236 : (Jvm.Cond.lays "java/util/ArrayList$Itr" "java/util/ArrayList$Itr" "expectedModCount" "I") ∈ zTg := zt_10 (i := 236) rfl rfl
theorem zw_10_238 : (Jvm.Cond.laysFinal "java/util/ArrayList$Itr" "java/util/ArrayList$Itr" "this$0" "Ljava/util/ArrayList;") ∈ zTg := zt_10 (i := 238) rfl rfl
theorem zw_11_40 : (Jvm.Cond.arrayClass Jvm.ClassFile.FieldType.long) ∈ zTg := zt_11 (i := 40) rfl rfl
theorem zw_11_41 : (Jvm.Cond.arrayClass Jvm.ClassFile.FieldType.double) ∈ zTg := zt_11 (i := 41) rfl rfl
theorem zws_13 : Cond.selects "Residueworks$Text" ⟨"Residueworks$Text", "turnRound", "()V"⟩ ⟨"Residueworks$Text", "turnRound", "()V"⟩ ∈ zTg := zsel (i := 13) (q := (⟨"Residueworks$Text", "turnRound", "()V"⟩, 3)) (by decide +kernel)
theorem zws_33 : Cond.selects "ResidueworksModel" ⟨"ResidueworksModel", "fails", "(ZI)Z"⟩ ⟨"ResidueworksModel", "fails", "(ZI)Z"⟩ ∈ zTg := zsel (i := 33) (q := (⟨"ResidueworksModel", "fails", "(ZI)Z"⟩, 6)) (by decide +kernel)
theorem zw_oi : Cond.code Lib.objectInit ⟨#[0xb1]⟩ 1 none ∈ zTg := zw_1_49
theorem zc_1 : zCode zmd_1 ∈ zTg := zw_1_46
theorem zp_1 : plainFor zmd_1.1 = true := by decide +kernel
theorem zd_1 : zdsc zmd_1.1 0 := ⟨by decide, by decide, by decide +kernel⟩
theorem zc_2 : zCode zmd_2 ∈ zTg := zw_1_56
theorem zp_2 : plainFor zmd_2.1 = true := by decide +kernel
theorem zd_2 : zdsc zmd_2.1 0 := ⟨by decide, by decide, by decide +kernel⟩
theorem zc_3 : zCode zmd_3 ∈ zTg := zw_1_62
theorem zp_3 : plainFor zmd_3.1 = true := by decide +kernel
theorem zd_3 : zdsc zmd_3.1 0 := ⟨by decide, by decide, by decide +kernel⟩
theorem zc_4 : zCode zmd_4 ∈ zTg := zw_1_99
theorem zp_4 : plainFor zmd_4.1 = true := by decide +kernel
theorem zd_4 : zdsc zmd_4.1 0 := ⟨by decide, by decide, by decide +kernel⟩
theorem zc_5 : zCode zmd_5 ∈ zTg := zw_1_119
theorem zp_5 : plainFor zmd_5.1 = true := by decide +kernel
theorem zd_5 : zdsc zmd_5.1 0 := ⟨by decide, by decide, by decide +kernel⟩
theorem zc_6 : zCode zmd_6 ∈ zTg := zw_1_145
theorem zp_6 : plainFor zmd_6.1 = true := by decide +kernel
theorem zd_6 : zdsc zmd_6.1 0 := ⟨by decide, by decide, by decide +kernel⟩
theorem zc_7 : zCode zmd_7 ∈ zTg := zw_1_198
theorem zp_7 : plainFor zmd_7.1 = true := by decide +kernel
theorem zd_7 : zdsc zmd_7.1 0 := ⟨by decide, by decide, by decide +kernel⟩
theorem zc_8 : zCode zmd_8 ∈ zTg := zw_1_229
theorem zp_8 : plainFor zmd_8.1 = true := by decide +kernel
theorem zd_8 : zdsc zmd_8.1 0 := ⟨by decide, by decide, by decide +kernel⟩
theorem zc_9 : zCode zmd_9 ∈ zTg := zw_2_44
theorem zp_9 : plainFor zmd_9.1 = true := by decide +kernel
theorem zd_9 : zdsc zmd_9.1 0 := ⟨by decide, by decide, by decide +kernel⟩
theorem zc_10 : zCode zmd_10 ∈ zTg := zw_2_63
theorem zp_10 : plainFor zmd_10.1 = true := by decide +kernel
theorem zd_10 : zdsc zmd_10.1 1 := ⟨by decide, by decide, by decide +kernel⟩
theorem zc_11 : zCode zmd_11 ∈ zTg := zw_2_67
theorem zp_11 : plainFor zmd_11.1 = true := by decide +kernel
theorem zd_11 : zdsc zmd_11.1 1 := ⟨by decide, by decide, by decide +kernel⟩
theorem zc_12 : zCode zmd_12 ∈ zTg := zw_2_72
theorem zp_12 : plainFor zmd_12.1 = true := by decide +kernel
theorem zd_12 : zdsc zmd_12.1 2 := ⟨by decide, by decide, by decide +kernel⟩
theorem zc_13 : zCode zmd_13 ∈ zTg := zw_2_76
theorem zp_13 : plainFor zmd_13.1 = true := by decide +kernel
theorem zd_13 : zdsc zmd_13.1 2 := ⟨by decide, by decide, by decide +kernel⟩
theorem zc_14 : zCode zmd_14 ∈ zTg := zw_6_197
theorem zp_14 : plainFor zmd_14.1 = true := by decide +kernel
theorem zd_14 : zdsc zmd_14.1 0 := ⟨by decide, by decide, by decide +kernel⟩
theorem zc_15 : zCode zmd_15 ∈ zTg := zw_6_205
theorem zp_15 : plainFor zmd_15.1 = true := by decide +kernel
theorem zd_15 : zdsc zmd_15.1 0 := ⟨by decide, by decide, by decide +kernel⟩
theorem zc_16 : zCode zmd_16 ∈ zTg := zw_6_208
theorem zp_16 : plainFor zmd_16.1 = true := by decide +kernel
theorem zd_16 : zdsc zmd_16.1 1 := ⟨by decide, by decide, by decide +kernel⟩
theorem zc_17 : zCode zmd_17 ∈ zTg := zw_6_237
theorem zp_17 : plainFor zmd_17.1 = true := by decide +kernel
theorem zd_17 : zdsc zmd_17.1 0 := ⟨by decide, by decide, by decide +kernel⟩
theorem zc_18 : zCode zmd_18 ∈ zTg := zw_7_0
theorem zp_18 : plainFor zmd_18.1 = true := by decide +kernel
theorem zd_18 : zdsc zmd_18.1 0 := ⟨by decide, by decide, by decide +kernel⟩
theorem zc_19 : zCode zmd_19 ∈ zTg := zw_7_3
theorem zp_19 : plainFor zmd_19.1 = true := by decide +kernel
theorem zd_19 : zdsc zmd_19.1 0 := ⟨by decide, by decide, by decide +kernel⟩
theorem zc_20 : zCode zmd_20 ∈ zTg := zw_7_24
theorem zp_20 : plainFor zmd_20.1 = true := by decide +kernel
theorem zd_20 : zdsc zmd_20.1 1 := ⟨by decide, by decide, by decide +kernel⟩
theorem zc_21 : zCode zmd_21 ∈ zTg := zw_7_27
theorem zp_21 : plainFor zmd_21.1 = true := by decide +kernel
theorem zd_21 : zdsc zmd_21.1 1 := ⟨by decide, by decide, by decide +kernel⟩
theorem zc_22 : zCode zmd_22 ∈ zTg := zw_7_32
theorem zp_22 : plainFor zmd_22.1 = true := by decide +kernel
theorem zd_22 : zdsc zmd_22.1 1 := ⟨by decide, by decide, by decide +kernel⟩
theorem zc_23 : zCode zmd_23 ∈ zTg := zw_7_36
theorem zp_23 : plainFor zmd_23.1 = true := by decide +kernel
theorem zd_23 : zdsc zmd_23.1 2 := ⟨by decide, by decide, by decide +kernel⟩
theorem zc_26 : zCode zmd_26 ∈ zTg := zw_3_72
theorem zp_26 : plainFor zmd_26.1 = true := by decide +kernel
theorem zd_26 : zdsc zmd_26.1 1 := ⟨by decide, by decide, by decide +kernel⟩
theorem zc_32 : zCode zmd_32 ∈ zTg := zw_7_76
theorem zp_32 : plainFor zmd_32.1 = true := by decide +kernel
theorem zd_32 : zdsc zmd_32.1 1 := ⟨by decide, by decide, by decide +kernel⟩
theorem zc_33 : zCode zmd_33 ∈ zTg := zw_7_80
theorem zp_33 : plainFor zmd_33.1 = true := by decide +kernel
theorem zd_33 : zdsc zmd_33.1 3 := ⟨by decide, by decide, by decide +kernel⟩
theorem zc_34 : zCode zmd_34 ∈ zTg := zw_7_84
theorem zp_34 : plainFor zmd_34.1 = true := by decide +kernel
theorem zd_34 : zdsc zmd_34.1 2 := ⟨by decide, by decide, by decide +kernel⟩
theorem zc_49 : zCode zmd_49 ∈ zTg := zw_3_135
theorem zp_49 : plainFor zmd_49.1 = true := by decide +kernel
theorem zd_49 : zdsc zmd_49.1 1 := ⟨by decide, by decide, by decide +kernel⟩
theorem zc_61 : zCode zmd_61 ∈ zTg := zw_3_157
theorem zp_61 : plainFor zmd_61.1 = true := by decide +kernel
theorem zd_61 : zdsc zmd_61.1 3 := ⟨by decide, by decide, by decide +kernel⟩
theorem zc_104 : zCode zmd_104 ∈ zTg := zw_4_66
theorem zp_104 : plainFor zmd_104.1 = true := by decide +kernel
theorem zd_104 : zdsc zmd_104.1 1 := ⟨by decide, by decide, by decide +kernel⟩
theorem zc_149 : zCode zmd_149 ∈ zTg := zw_4_181
theorem zp_149 : plainFor zmd_149.1 = true := by decide +kernel
theorem zd_149 : zdsc zmd_149.1 1 := ⟨by decide, by decide, by decide +kernel⟩
theorem zc_169 : zCode zmd_169 ∈ zTg := zw_4_211
theorem zp_169 : plainFor zmd_169.1 = true := by decide +kernel
theorem zd_169 : zdsc zmd_169.1 4 := ⟨by decide, by decide, by decide +kernel⟩
theorem zc_170 : zCode zmd_170 ∈ zTg := zw_4_215
theorem zp_170 : plainFor zmd_170.1 = true := by decide +kernel
theorem zd_170 : zdsc zmd_170.1 2 := ⟨by decide, by decide, by decide +kernel⟩
theorem zc_171 : zCode zmd_171 ∈ zTg := zw_4_219
theorem zp_171 : plainFor zmd_171.1 = true := by decide +kernel
theorem zd_171 : zdsc zmd_171.1 2 := ⟨by decide, by decide, by decide +kernel⟩
theorem zc_172 : zCode zmd_172 ∈ zTg := zw_4_232
theorem zp_172 : plainFor zmd_172.1 = true := by decide +kernel
theorem zd_172 : zdsc zmd_172.1 0 := ⟨by decide, by decide, by decide +kernel⟩
theorem zc_173 : zCode zmd_173 ∈ zTg := zw_9_184
theorem zp_173 : plainFor zmd_173.1 = true := by decide +kernel
theorem zd_173 : zdsc zmd_173.1 2 := ⟨by decide, by decide, by decide +kernel⟩
theorem zc_174 : zCode zmd_174 ∈ zTg := zw_8_76
theorem zp_174 : plainFor zmd_174.1 = true := by decide +kernel
theorem zd_174 : zdsc zmd_174.1 2 := ⟨by decide, by decide, by decide +kernel⟩
theorem zu_X0 : ∀ w ∈ u_ws RX0 TX0 12, w ∈ zTg := List.forall_mem_cons.mpr ⟨zw_2_15, List.forall_mem_cons.mpr ⟨zw_2_17, List.forall_mem_cons.mpr ⟨zw_2_19, List.forall_mem_cons.mpr ⟨zw_2_21, List.forall_mem_cons.mpr ⟨zw_2_23, List.forall_mem_cons.mpr ⟨zw_2_25, List.forall_mem_cons.mpr ⟨zw_2_27, List.forall_mem_cons.mpr ⟨zw_2_29, List.forall_mem_cons.mpr ⟨zw_2_31, List.forall_mem_cons.mpr ⟨zw_2_33, List.forall_mem_cons.mpr ⟨zw_2_35, List.forall_mem_cons.mpr ⟨zw_2_37, fun _ h => absurd h List.not_mem_nil⟩⟩⟩⟩⟩⟩⟩⟩⟩⟩⟩⟩
def zfv_X0 : List Value := [.null, .null, .int 0, .null, .null, .null, .null, .null, .null, .null, .null, .null]
theorem zfs_X0 : ∀ (E : zen) (ad : zam), zall E ad [5, 5, 0, 5, 5, 5, 5, 5, 5, 5, 5, 5] zfv_X0 := fun _ _ => zall.cons ((zr5 (v := 5) rfl _).mpr rfl) (zall.cons ((zr5 (v := 5) rfl _).mpr rfl) (zall.cons (zn0' (a := 0) (by decide)) (zall.cons ((zr5 (v := 5) rfl _).mpr rfl) (zall.cons ((zr5 (v := 5) rfl _).mpr rfl) (zall.cons ((zr5 (v := 5) rfl _).mpr rfl) (zall.cons ((zr5 (v := 5) rfl _).mpr rfl) (zall.cons ((zr5 (v := 5) rfl _).mpr rfl) (zall.cons ((zr5 (v := 5) rfl _).mpr rfl) (zall.cons ((zr5 (v := 5) rfl _).mpr rfl) (zall.cons ((zr5 (v := 5) rfl _).mpr rfl) (zall.cons ((zr5 (v := 5) rfl _).mpr rfl) zall.nil)))))))))))
theorem zdf_X0 : ∀ j, j < 12 → defaultValue (tyX0 j) = vp_V zfv_X0 j := by decide +kernel
theorem zu_X1 : ∀ w ∈ u_ws RX1 TX1 3, w ∈ zTg := List.forall_mem_cons.mpr ⟨zw_1_134, List.forall_mem_cons.mpr ⟨zw_1_136, List.forall_mem_cons.mpr ⟨zw_1_138, fun _ h => absurd h List.not_mem_nil⟩⟩⟩
def zfv_X1 : List Value := [.null, .null, .null]
theorem zfs_X1 : ∀ (E : zen) (ad : zam), zall E ad [5, 5, 5] zfv_X1 := fun _ _ => zall.cons ((zr5 (v := 5) rfl _).mpr rfl) (zall.cons ((zr5 (v := 5) rfl _).mpr rfl) (zall.cons ((zr5 (v := 5) rfl _).mpr rfl) zall.nil))
theorem zdf_X1 : ∀ j, j < 3 → defaultValue (tyX1 j) = vp_V zfv_X1 j := by decide +kernel
theorem zu_X2 : ∀ w ∈ u_ws RX2 TX2 11, w ∈ zTg := List.forall_mem_cons.mpr ⟨zw_1_171, List.forall_mem_cons.mpr ⟨zw_1_173, List.forall_mem_cons.mpr ⟨zw_1_175, List.forall_mem_cons.mpr ⟨zw_1_177, List.forall_mem_cons.mpr ⟨zw_1_179, List.forall_mem_cons.mpr ⟨zw_1_181, List.forall_mem_cons.mpr ⟨zw_1_183, List.forall_mem_cons.mpr ⟨zw_1_185, List.forall_mem_cons.mpr ⟨zw_1_187, List.forall_mem_cons.mpr ⟨zw_1_189, List.forall_mem_cons.mpr ⟨zw_1_191, fun _ h => absurd h List.not_mem_nil⟩⟩⟩⟩⟩⟩⟩⟩⟩⟩⟩
def zfv_X2 : List Value := [.null, .null, .null, .null, .null, .null, .null, .null, .null, .null, .null]
theorem zfs_X2 : ∀ (E : zen) (ad : zam), zall E ad [5, 5, 5, 5, 5, 5, 5, 5, 5, 5, 5] zfv_X2 := fun _ _ => zall.cons ((zr5 (v := 5) rfl _).mpr rfl) (zall.cons ((zr5 (v := 5) rfl _).mpr rfl) (zall.cons ((zr5 (v := 5) rfl _).mpr rfl) (zall.cons ((zr5 (v := 5) rfl _).mpr rfl) (zall.cons ((zr5 (v := 5) rfl _).mpr rfl) (zall.cons ((zr5 (v := 5) rfl _).mpr rfl) (zall.cons ((zr5 (v := 5) rfl _).mpr rfl) (zall.cons ((zr5 (v := 5) rfl _).mpr rfl) (zall.cons ((zr5 (v := 5) rfl _).mpr rfl) (zall.cons ((zr5 (v := 5) rfl _).mpr rfl) (zall.cons ((zr5 (v := 5) rfl _).mpr rfl) zall.nil))))))))))
theorem zdf_X2 : ∀ j, j < 11 → defaultValue (tyX2 j) = vp_V zfv_X2 j := by decide +kernel
theorem zu_X3 : ∀ w ∈ u_ws RX3 TX3 6, w ∈ zTg := List.forall_mem_cons.mpr ⟨zw_1_212, List.forall_mem_cons.mpr ⟨zw_1_214, List.forall_mem_cons.mpr ⟨zw_1_216, List.forall_mem_cons.mpr ⟨zw_1_218, List.forall_mem_cons.mpr ⟨zw_1_220, List.forall_mem_cons.mpr ⟨zw_1_222, fun _ h => absurd h List.not_mem_nil⟩⟩⟩⟩⟩⟩
def zfv_X3 : List Value := [.null, .null, .null, .null, .null, .null]
theorem zfs_X3 : ∀ (E : zen) (ad : zam), zall E ad [5, 5, 5, 5, 5, 5] zfv_X3 := fun _ _ => zall.cons ((zr5 (v := 5) rfl _).mpr rfl) (zall.cons ((zr5 (v := 5) rfl _).mpr rfl) (zall.cons ((zr5 (v := 5) rfl _).mpr rfl) (zall.cons ((zr5 (v := 5) rfl _).mpr rfl) (zall.cons ((zr5 (v := 5) rfl _).mpr rfl) (zall.cons ((zr5 (v := 5) rfl _).mpr rfl) zall.nil)))))
theorem zdf_X3 : ∀ j, j < 6 → defaultValue (tyX3 j) = vp_V zfv_X3 j := by decide +kernel
theorem zu_X4 : ∀ w ∈ u_ws RX4 TX4 3, w ∈ zTg := List.forall_mem_cons.mpr ⟨zw_1_107, List.forall_mem_cons.mpr ⟨zw_1_109, List.forall_mem_cons.mpr ⟨zw_1_111, fun _ h => absurd h List.not_mem_nil⟩⟩⟩
def zfv_X4 : List Value := [.null, .null, .int 0]
theorem zfs_X4 : ∀ (E : zen) (ad : zam), zall E ad [5, 5, 0] zfv_X4 := fun _ _ => zall.cons ((zr5 (v := 5) rfl _).mpr rfl) (zall.cons ((zr5 (v := 5) rfl _).mpr rfl) (zall.cons (zn0' (a := 0) (by decide)) zall.nil))
theorem zdf_X4 : ∀ j, j < 3 → defaultValue (tyX4 j) = vp_V zfv_X4 j := by decide +kernel
theorem zu_X6 : ∀ w ∈ u_ws RX6 TX6 3, w ∈ zTg := List.forall_mem_cons.mpr ⟨zw_1_88, List.forall_mem_cons.mpr ⟨zw_1_90, List.forall_mem_cons.mpr ⟨zw_1_92, fun _ h => absurd h List.not_mem_nil⟩⟩⟩
def zfv_X6 : List Value := [.null, .null, .int 0]
theorem zfs_X6 : ∀ (E : zen) (ad : zam), zall E ad [5, 5, 0] zfv_X6 := fun _ _ => zall.cons ((zr5 (v := 5) rfl _).mpr rfl) (zall.cons ((zr5 (v := 5) rfl _).mpr rfl) (zall.cons (zn0' (a := 0) (by decide)) zall.nil))
theorem zdf_X6 : ∀ j, j < 3 → defaultValue (tyX6 j) = vp_V zfv_X6 j := by decide +kernel
theorem zu_X7 : ∀ w ∈ u_ws RX7 TX7 15, w ∈ zTg := List.forall_mem_cons.mpr ⟨zw_2_93, List.forall_mem_cons.mpr ⟨zw_2_95, List.forall_mem_cons.mpr ⟨zw_2_97, List.forall_mem_cons.mpr ⟨zw_2_99, List.forall_mem_cons.mpr ⟨zw_2_101, List.forall_mem_cons.mpr ⟨zw_2_103, List.forall_mem_cons.mpr ⟨zw_2_105, List.forall_mem_cons.mpr ⟨zw_2_107, List.forall_mem_cons.mpr ⟨zw_2_109, List.forall_mem_cons.mpr ⟨zw_2_111, List.forall_mem_cons.mpr ⟨zw_2_113, List.forall_mem_cons.mpr ⟨zw_2_115, List.forall_mem_cons.mpr ⟨zw_2_117, List.forall_mem_cons.mpr ⟨zw_2_119, List.forall_mem_cons.mpr ⟨zw_2_121, fun _ h => absurd h List.not_mem_nil⟩⟩⟩⟩⟩⟩⟩⟩⟩⟩⟩⟩⟩⟩⟩
def zfv_X7 : List Value := [.null, .null, .null, .null, .null, .null, .null, .null, .null, .null, .null, .null, .null, .null, .null]
theorem zfs_X7 : ∀ (E : zen) (ad : zam), zall E ad [5, 5, 5, 5, 5, 5, 5, 5, 5, 5, 5, 5, 5, 5, 5] zfv_X7 := fun _ _ => zall.cons ((zr5 (v := 5) rfl _).mpr rfl) (zall.cons ((zr5 (v := 5) rfl _).mpr rfl) (zall.cons ((zr5 (v := 5) rfl _).mpr rfl) (zall.cons ((zr5 (v := 5) rfl _).mpr rfl) (zall.cons ((zr5 (v := 5) rfl _).mpr rfl) (zall.cons ((zr5 (v := 5) rfl _).mpr rfl) (zall.cons ((zr5 (v := 5) rfl _).mpr rfl) (zall.cons ((zr5 (v := 5) rfl _).mpr rfl) (zall.cons ((zr5 (v := 5) rfl _).mpr rfl) (zall.cons ((zr5 (v := 5) rfl _).mpr rfl) (zall.cons ((zr5 (v := 5) rfl _).mpr rfl) (zall.cons ((zr5 (v := 5) rfl _).mpr rfl) (zall.cons ((zr5 (v := 5) rfl _).mpr rfl) (zall.cons ((zr5 (v := 5) rfl _).mpr rfl) (zall.cons ((zr5 (v := 5) rfl _).mpr rfl) zall.nil))))))))))))))
theorem zdf_X7 : ∀ j, j < 15 → defaultValue (tyX7 j) = vp_V zfv_X7 j := by decide +kernel
theorem zu_X8 : ∀ w ∈ u_ws RX8 TX8 3, w ∈ zTg := List.forall_mem_cons.mpr ⟨zw_1_75, List.forall_mem_cons.mpr ⟨zw_1_77, List.forall_mem_cons.mpr ⟨zw_1_79, fun _ h => absurd h List.not_mem_nil⟩⟩⟩
def zfv_X8 : List Value := [.null, .int 0, .int 0]
theorem zfs_X8 : ∀ (E : zen) (ad : zam), zall E ad [5, 0, 0] zfv_X8 := fun _ _ => zall.cons ((zr5 (v := 5) rfl _).mpr rfl) (zall.cons (zn0' (a := 0) (by decide)) (zall.cons (zn0' (a := 0) (by decide)) zall.nil))
theorem zdf_X8 : ∀ j, j < 3 → defaultValue (tyX8 j) = vp_V zfv_X8 j := by decide +kernel
theorem zu_X9 : ∀ w ∈ u_ws RX9 TX9 10, w ∈ zTg := List.forall_mem_cons.mpr ⟨zw_2_135, List.forall_mem_cons.mpr ⟨zw_2_137, List.forall_mem_cons.mpr ⟨zw_2_139, List.forall_mem_cons.mpr ⟨zw_2_141, List.forall_mem_cons.mpr ⟨zw_2_143, List.forall_mem_cons.mpr ⟨zw_2_145, List.forall_mem_cons.mpr ⟨zw_2_147, List.forall_mem_cons.mpr ⟨zw_2_149, List.forall_mem_cons.mpr ⟨zw_2_151, List.forall_mem_cons.mpr ⟨zw_2_153, fun _ h => absurd h List.not_mem_nil⟩⟩⟩⟩⟩⟩⟩⟩⟩⟩
def zfv_X9 : List Value := [.null, .null, .null, .null, .null, .null, .null, .null, .null, .null]
theorem zfs_X9 : ∀ (E : zen) (ad : zam), zall E ad [5, 5, 5, 5, 5, 5, 5, 5, 5, 5] zfv_X9 := fun _ _ => zall.cons ((zr5 (v := 5) rfl _).mpr rfl) (zall.cons ((zr5 (v := 5) rfl _).mpr rfl) (zall.cons ((zr5 (v := 5) rfl _).mpr rfl) (zall.cons ((zr5 (v := 5) rfl _).mpr rfl) (zall.cons ((zr5 (v := 5) rfl _).mpr rfl) (zall.cons ((zr5 (v := 5) rfl _).mpr rfl) (zall.cons ((zr5 (v := 5) rfl _).mpr rfl) (zall.cons ((zr5 (v := 5) rfl _).mpr rfl) (zall.cons ((zr5 (v := 5) rfl _).mpr rfl) (zall.cons ((zr5 (v := 5) rfl _).mpr rfl) zall.nil)))))))))
theorem zdf_X9 : ∀ j, j < 10 → defaultValue (tyX9 j) = vp_V zfv_X9 j := by decide +kernel
theorem zu_X10 : ∀ w ∈ u_ws RX10 TX10 2, w ∈ zTg := List.forall_mem_cons.mpr ⟨zw_7_42, List.forall_mem_cons.mpr ⟨zw_7_44, fun _ h => absurd h List.not_mem_nil⟩⟩
def zfv_X10 : List Value := [.int 0, .null]
theorem zfs_X10 : ∀ (E : zen) (ad : zam), zall E ad [0, 5] zfv_X10 := fun _ _ => zall.cons (zn0' (a := 0) (by decide)) (zall.cons ((zr5 (v := 5) rfl _).mpr rfl) zall.nil)
theorem zdf_X10 : ∀ j, j < 2 → defaultValue (tyX10 j) = vp_V zfv_X10 j := by decide +kernel
theorem zu_X11 : ∀ w ∈ u_ws RX11 TX11 6, w ∈ zTg := List.forall_mem_cons.mpr ⟨zw_7_53, List.forall_mem_cons.mpr ⟨zw_7_55, List.forall_mem_cons.mpr ⟨zw_7_57, List.forall_mem_cons.mpr ⟨zw_7_59, List.forall_mem_cons.mpr ⟨zw_7_61, List.forall_mem_cons.mpr ⟨zw_7_63, fun _ h => absurd h List.not_mem_nil⟩⟩⟩⟩⟩⟩
def zfv_X11 : List Value := [.null, .null, .null, .null, .null, .int 0]
theorem zfs_X11 : ∀ (E : zen) (ad : zam), zall E ad [5, 5, 5, 5, 5, 0] zfv_X11 := fun _ _ => zall.cons ((zr5 (v := 5) rfl _).mpr rfl) (zall.cons ((zr5 (v := 5) rfl _).mpr rfl) (zall.cons ((zr5 (v := 5) rfl _).mpr rfl) (zall.cons ((zr5 (v := 5) rfl _).mpr rfl) (zall.cons ((zr5 (v := 5) rfl _).mpr rfl) (zall.cons (zn0' (a := 0) (by decide)) zall.nil)))))
theorem zdf_X11 : ∀ j, j < 6 → defaultValue (tyX11 j) = vp_V zfv_X11 j := by decide +kernel
theorem zu_J4 : ∀ w ∈ u_ws RJ4 TJ4 4, w ∈ zTg := List.forall_mem_cons.mpr ⟨zw_6_224, List.forall_mem_cons.mpr ⟨zw_6_226, List.forall_mem_cons.mpr ⟨zw_6_228, List.forall_mem_cons.mpr ⟨zw_6_230, fun _ h => absurd h List.not_mem_nil⟩⟩⟩⟩
def zfv_J4 : List Value := [.null, .int 0, .int 0, .int 0]
theorem zfs_J4 : ∀ (E : zen) (ad : zam), zall E ad [5, 0, 0, 0] zfv_J4 := fun _ _ => zall.cons ((zr5 (v := 5) rfl _).mpr rfl) (zall.cons (zn0' (a := 0) (by decide)) (zall.cons (zn0' (a := 0) (by decide)) (zall.cons (zn0' (a := 0) (by decide)) zall.nil)))
theorem zdf_J4 : ∀ j, j < 4 → defaultValue (tyJ4 j) = vp_V zfv_J4 j := by decide +kernel
theorem zu_Jx4a65c : ∀ w ∈ u_ws RJx4a65c TJx4a65c 3, w ∈ zTg := List.forall_mem_cons.mpr ⟨zw_7_19, List.forall_mem_cons.mpr ⟨zw_7_15, List.forall_mem_cons.mpr ⟨zw_7_17, fun _ h => absurd h List.not_mem_nil⟩⟩⟩
def zfv_Jx4a65c : List Value := [.int 0, .null, .int 0]
theorem zfs_Jx4a65c : ∀ (E : zen) (ad : zam), zall E ad [0, 5, 0] zfv_Jx4a65c := fun _ _ => zall.cons (zn0' (a := 0) (by decide)) (zall.cons ((zr5 (v := 5) rfl _).mpr rfl) (zall.cons (zn0' (a := 0) (by decide)) zall.nil))
theorem zdf_Jx4a65c : ∀ j, j < 3 → defaultValue (tyJx4a65c j) = vp_V zfv_Jx4a65c j := by decide +kernel
theorem zu_Jx35411 : ∀ w ∈ u_ws RJx35411 TJx35411 4, w ∈ zTg := List.forall_mem_cons.mpr ⟨zw_10_232, List.forall_mem_cons.mpr ⟨zw_10_234, List.forall_mem_cons.mpr ⟨zw_10_236, List.forall_mem_cons.mpr ⟨zw_10_238, fun _ h => absurd h List.not_mem_nil⟩⟩⟩⟩
def zfv_Jx35411 : List Value := [.int 0, .int 0, .int 0, .null]
theorem zfs_Jx35411 : ∀ (E : zen) (ad : zam), zall E ad [0, 0, 0, 5] zfv_Jx35411 := fun _ _ => zall.cons (zn0' (a := 0) (by decide)) (zall.cons (zn0' (a := 0) (by decide)) (zall.cons (zn0' (a := 0) (by decide)) (zall.cons ((zr5 (v := 5) rfl _).mpr rfl) zall.nil)))
theorem zdf_Jx35411 : ∀ j, j < 4 → defaultValue (tyJx35411 j) = vp_V zfv_Jx35411 j := by decide +kernel
theorem zu_J0 : ∀ w ∈ u_ws RJ0 TJ0 2, w ∈ zTg := List.forall_mem_cons.mpr ⟨zw_3_61, List.forall_mem_cons.mpr ⟨zw_3_63, fun _ h => absurd h List.not_mem_nil⟩⟩
theorem zu_J6 : ∀ w ∈ u_ws RJ6 TJ6 1, w ∈ zTg := List.forall_mem_cons.mpr ⟨zw_9_230, fun _ h => absurd h List.not_mem_nil⟩
set_option maxRecDepth 20000 in
theorem zh_0 : zM 0 = some zmd_0 := rfl
set_option maxRecDepth 20000 in
theorem zh_1 : zM 1 = some zmd_1 := rfl
set_option maxRecDepth 20000 in
theorem zh_2 : zM 2 = some zmd_2 := rfl
set_option maxRecDepth 20000 in
theorem zh_3 : zM 3 = some zmd_3 := rfl
set_option maxRecDepth 20000 in
theorem zh_4 : zM 4 = some zmd_4 := rfl
set_option maxRecDepth 20000 in
theorem zh_5 : zM 5 = some zmd_5 := rfl
set_option maxRecDepth 20000 in
theorem zh_6 : zM 6 = some zmd_6 := rfl
set_option maxRecDepth 20000 in
theorem zh_7 : zM 7 = some zmd_7 := rfl
set_option maxRecDepth 20000 in
theorem zh_8 : zM 8 = some zmd_8 := rfl
set_option maxRecDepth 20000 in
theorem zh_9 : zM 9 = some zmd_9 := rfl
set_option maxRecDepth 20000 in
theorem zh_10 : zM 10 = some zmd_10 := rfl
set_option maxRecDepth 20000 in
theorem zh_11 : zM 11 = some zmd_11 := rfl
set_option maxRecDepth 20000 in
theorem zh_12 : zM 12 = some zmd_12 := rfl
set_option maxRecDepth 20000 in
theorem zh_13 : zM 13 = some zmd_13 := rfl
set_option maxRecDepth 20000 in
theorem zh_14 : zM 14 = some zmd_14 := rfl
set_option maxRecDepth 20000 in
theorem zh_15 : zM 15 = some zmd_15 := rfl
set_option maxRecDepth 20000 in
theorem zh_16 : zM 16 = some zmd_16 := rfl
set_option maxRecDepth 20000 in
theorem zh_17 : zM 17 = some zmd_17 := rfl
set_option maxRecDepth 20000 in
theorem zh_18 : zM 18 = some zmd_18 := rfl
set_option maxRecDepth 20000 in
theorem zh_19 : zM 19 = some zmd_19 := rfl
set_option maxRecDepth 20000 in
theorem zh_20 : zM 20 = some zmd_20 := rfl
set_option maxRecDepth 20000 in
theorem zh_21 : zM 21 = some zmd_21 := rfl
set_option maxRecDepth 20000 in
theorem zh_22 : zM 22 = some zmd_22 := rfl
set_option maxRecDepth 20000 in
theorem zh_23 : zM 23 = some zmd_23 := rfl
set_option maxRecDepth 20000 in
theorem zh_26 : zM 26 = some zmd_26 := rfl
set_option maxRecDepth 20000 in
theorem zh_32 : zM 32 = some zmd_32 := rfl
set_option maxRecDepth 20000 in
theorem zh_33 : zM 33 = some zmd_33 := rfl
set_option maxRecDepth 20000 in
theorem zh_34 : zM 34 = some zmd_34 := rfl
set_option maxRecDepth 20000 in
theorem zh_49 : zM 49 = some zmd_49 := rfl
set_option maxRecDepth 20000 in
theorem zh_61 : zM 61 = some zmd_61 := rfl
set_option maxRecDepth 20000 in
theorem zh_104 : zM 104 = some zmd_104 := rfl
set_option maxRecDepth 20000 in
theorem zh_149 : zM 149 = some zmd_149 := rfl
set_option maxRecDepth 20000 in
theorem zh_169 : zM 169 = some zmd_169 := rfl
set_option maxRecDepth 20000 in
theorem zh_170 : zM 170 = some zmd_170 := rfl
set_option maxRecDepth 20000 in
theorem zh_171 : zM 171 = some zmd_171 := rfl
set_option maxRecDepth 20000 in
theorem zh_172 : zM 172 = some zmd_172 := rfl
set_option maxRecDepth 20000 in
theorem zh_173 : zM 173 = some zmd_173 := rfl
set_option maxRecDepth 20000 in
theorem zh_174 : zM 174 = some zmd_174 := rfl
theorem zokE {m pc : Nat} {f g : zS} (h : f = g) (r : zOK zPre m pc g) : zOK zPre m pc f := by rw [h]; exact r
end Words
