def RX0 : String := "Residueworks$Conditions"
def TX0 : u_T := fun k => match k with
  | 0 => ("Residueworks$Conditions", "number", "LResidueworks$Whole;", true)
  | 1 => ("Residueworks$Conditions", "multiple", "LResidueworks$Whole;", true)
  | 2 => ("Residueworks$Conditions", "count", "I", false)
  | 3 => ("Residueworks$Conditions", "rests", "[LResidueworks$Whole;", true)
  | 4 => ("Residueworks$Conditions", "moduli", "[LResidueworks$Whole;", true)
  | 5 => ("Residueworks$Conditions", "division", "LResidueworks$Division;", true)
  | 6 => ("Residueworks$Conditions", "residues", "LResidueworks$Residues;", true)
  | 7 => ("Residueworks$Conditions", "difference", "LResidueworks$Whole;", true)
  | 8 => ("Residueworks$Conditions", "factor", "LResidueworks$Whole;", true)
  | 9 => ("Residueworks$Conditions", "step", "LResidueworks$Whole;", true)
  | 10 => ("Residueworks$Conditions", "product", "LResidueworks$Whole;", true)
  | _ => ("Residueworks$Conditions", "longer", "LResidueworks$Whole;", true)
def tyX0 : Nat → FieldType := fun k => match k with
  | 0 => .object "Residueworks$Whole"
  | 1 => .object "Residueworks$Whole"
  | 2 => .int
  | 3 => .array (.object "Residueworks$Whole")
  | 4 => .array (.object "Residueworks$Whole")
  | 5 => .object "Residueworks$Division"
  | 6 => .object "Residueworks$Residues"
  | 7 => .object "Residueworks$Whole"
  | 8 => .object "Residueworks$Whole"
  | 9 => .object "Residueworks$Whole"
  | 10 => .object "Residueworks$Whole"
  | _ => .object "Residueworks$Whole"
abbrev wsX00 : List Cond := u_ws RX0 TX0 12
theorem nmX0 : ∀ a, a < 12 → ∀ b, b < 12 → a ≠ b → (TX0 a).2.1 ≠ (TX0 b).2.1 := by decide +kernel
theorem tyX0_ok : ∀ k, k < 12 → parseFieldDescriptor (TX0 k).2.2.1 = some (tyX0 k) := by decide +kernel
def RX1 : String := "Residueworks$Division"
def TX1 : u_T := fun k => match k with
  | 0 => ("Residueworks$Division", "quotient", "LResidueworks$Whole;", true)
  | 1 => ("Residueworks$Division", "rest", "LResidueworks$Whole;", true)
  | _ => ("Residueworks$Division", "divisor", "LResidueworks$Whole;", true)
def tyX1 : Nat → FieldType := fun k => match k with
  | 0 => .object "Residueworks$Whole"
  | 1 => .object "Residueworks$Whole"
  | _ => .object "Residueworks$Whole"
abbrev wsX10 : List Cond := u_ws RX1 TX1 3
theorem nmX1 : ∀ a, a < 3 → ∀ b, b < 3 → a ≠ b → (TX1 a).2.1 ≠ (TX1 b).2.1 := by decide +kernel
theorem tyX1_ok : ∀ k, k < 3 → parseFieldDescriptor (TX1 k).2.2.1 = some (tyX1 k) := by decide +kernel
def RX2 : String := "Residueworks$Residues"
def TX2 : u_T := fun k => match k with
  | 0 => ("Residueworks$Residues", "raised", "LResidueworks$Whole;", true)
  | 1 => ("Residueworks$Residues", "inverse", "LResidueworks$Whole;", true)
  | 2 => ("Residueworks$Residues", "divisor", "LResidueworks$Whole;", true)
  | 3 => ("Residueworks$Residues", "multiple", "LResidueworks$Whole;", true)
  | 4 => ("Residueworks$Residues", "division", "LResidueworks$Division;", true)
  | 5 => ("Residueworks$Residues", "base", "LResidueworks$Whole;", true)
  | 6 => ("Residueworks$Residues", "product", "LResidueworks$Whole;", true)
  | 7 => ("Residueworks$Residues", "numberOne", "LResidueworks$Whole;", true)
  | 8 => ("Residueworks$Residues", "numberTwo", "LResidueworks$Whole;", true)
  | 9 => ("Residueworks$Residues", "factorOne", "LResidueworks$Whole;", true)
  | _ => ("Residueworks$Residues", "factorTwo", "LResidueworks$Whole;", true)
def tyX2 : Nat → FieldType := fun k => match k with
  | 0 => .object "Residueworks$Whole"
  | 1 => .object "Residueworks$Whole"
  | 2 => .object "Residueworks$Whole"
  | 3 => .object "Residueworks$Whole"
  | 4 => .object "Residueworks$Division"
  | 5 => .object "Residueworks$Whole"
  | 6 => .object "Residueworks$Whole"
  | 7 => .object "Residueworks$Whole"
  | 8 => .object "Residueworks$Whole"
  | 9 => .object "Residueworks$Whole"
  | _ => .object "Residueworks$Whole"
abbrev wsX20 : List Cond := u_ws RX2 TX2 11
theorem nmX2 : ∀ a, a < 11 → ∀ b, b < 11 → a ≠ b → (TX2 a).2.1 ≠ (TX2 b).2.1 := by decide +kernel
theorem tyX2_ok : ∀ k, k < 11 → parseFieldDescriptor (TX2 k).2.2.1 = some (tyX2 k) := by decide +kernel
def RX3 : String := "Residueworks$Roots"
def TX3 : u_T := fun k => match k with
  | 0 => ("Residueworks$Roots", "raised", "LResidueworks$Whole;", true)
  | 1 => ("Residueworks$Roots", "greatest", "LResidueworks$Whole;", true)
  | 2 => ("Residueworks$Roots", "spare", "LResidueworks$Whole;", true)
  | 3 => ("Residueworks$Roots", "trial", "LResidueworks$Whole;", true)
  | 4 => ("Residueworks$Roots", "step", "LResidueworks$Whole;", true)
  | _ => ("Residueworks$Roots", "base", "LResidueworks$Whole;", true)
def tyX3 : Nat → FieldType := fun k => match k with
  | 0 => .object "Residueworks$Whole"
  | 1 => .object "Residueworks$Whole"
  | 2 => .object "Residueworks$Whole"
  | 3 => .object "Residueworks$Whole"
  | 4 => .object "Residueworks$Whole"
  | _ => .object "Residueworks$Whole"
abbrev wsX30 : List Cond := u_ws RX3 TX3 6
theorem nmX3 : ∀ a, a < 6 → ∀ b, b < 6 → a ≠ b → (TX3 a).2.1 ≠ (TX3 b).2.1 := by decide +kernel
theorem tyX3_ok : ∀ k, k < 6 → parseFieldDescriptor (TX3 k).2.2.1 = some (tyX3 k) := by decide +kernel
def RX4 : String := "Residueworks$Row"
def TX4 : u_T := fun k => match k with
  | 0 => ("Residueworks$Row", "bytes", "[B", true)
  | 1 => ("Residueworks$Row", "round", "LResidueworks$Whole;", true)
  | _ => ("Residueworks$Row", "count", "I", false)
def tyX4 : Nat → FieldType := fun k => match k with
  | 0 => .array .byte
  | 1 => .object "Residueworks$Whole"
  | _ => .int
abbrev wsX40 : List Cond := u_ws RX4 TX4 3
theorem nmX4 : ∀ a, a < 3 → ∀ b, b < 3 → a ≠ b → (TX4 a).2.1 ≠ (TX4 b).2.1 := by decide +kernel
theorem tyX4_ok : ∀ k, k < 3 → parseFieldDescriptor (TX4 k).2.2.1 = some (tyX4 k) := by decide +kernel
def RX6 : String := "Residueworks$Text"
def TX6 : u_T := fun k => match k with
  | 0 => ("Residueworks$Text", "signs", "[C", true)
  | 1 => ("Residueworks$Text", "left", "LResidueworks$Whole;", true)
  | _ => ("Residueworks$Text", "count", "I", false)
def tyX6 : Nat → FieldType := fun k => match k with
  | 0 => .array .char
  | 1 => .object "Residueworks$Whole"
  | _ => .int
abbrev wsX60 : List Cond := u_ws RX6 TX6 3
theorem nmX6 : ∀ a, a < 3 → ∀ b, b < 3 → a ≠ b → (TX6 a).2.1 ≠ (TX6 b).2.1 := by decide +kernel
theorem tyX6_ok : ∀ k, k < 3 → parseFieldDescriptor (TX6 k).2.2.1 = some (tyX6 k) := by decide +kernel
def RX7 : String := "Residueworks$Theorem"
def TX7 : u_T := fun k => match k with
  | 0 => ("Residueworks$Theorem", "division", "LResidueworks$Division;", true)
  | 1 => ("Residueworks$Theorem", "residues", "LResidueworks$Residues;", true)
  | 2 => ("Residueworks$Theorem", "roots", "LResidueworks$Roots;", true)
  | 3 => ("Residueworks$Theorem", "conditions", "LResidueworks$Conditions;", true)
  | 4 => ("Residueworks$Theorem", "text", "LResidueworks$Text;", true)
  | 5 => ("Residueworks$Theorem", "row", "LResidueworks$Row;", true)
  | 6 => ("Residueworks$Theorem", "one", "LResidueworks$Whole;", true)
  | 7 => ("Residueworks$Theorem", "minusOne", "LResidueworks$Whole;", true)
  | 8 => ("Residueworks$Theorem", "a", "LResidueworks$Whole;", true)
  | 9 => ("Residueworks$Theorem", "b", "LResidueworks$Whole;", true)
  | 10 => ("Residueworks$Theorem", "c", "LResidueworks$Whole;", true)
  | 11 => ("Residueworks$Theorem", "d", "LResidueworks$Whole;", true)
  | 12 => ("Residueworks$Theorem", "inverse", "LResidueworks$Whole;", true)
  | 13 => ("Residueworks$Theorem", "exponentOne", "LResidueworks$Whole;", true)
  | _ => ("Residueworks$Theorem", "exponentTwo", "LResidueworks$Whole;", true)
def tyX7 : Nat → FieldType := fun k => match k with
  | 0 => .object "Residueworks$Division"
  | 1 => .object "Residueworks$Residues"
  | 2 => .object "Residueworks$Roots"
  | 3 => .object "Residueworks$Conditions"
  | 4 => .object "Residueworks$Text"
  | 5 => .object "Residueworks$Row"
  | 6 => .object "Residueworks$Whole"
  | 7 => .object "Residueworks$Whole"
  | 8 => .object "Residueworks$Whole"
  | 9 => .object "Residueworks$Whole"
  | 10 => .object "Residueworks$Whole"
  | 11 => .object "Residueworks$Whole"
  | 12 => .object "Residueworks$Whole"
  | 13 => .object "Residueworks$Whole"
  | _ => .object "Residueworks$Whole"
abbrev wsX70 : List Cond := u_ws RX7 TX7 15
theorem nmX7 : ∀ a, a < 15 → ∀ b, b < 15 → a ≠ b → (TX7 a).2.1 ≠ (TX7 b).2.1 := by decide +kernel
theorem tyX7_ok : ∀ k, k < 15 → parseFieldDescriptor (TX7 k).2.2.1 = some (tyX7 k) := by decide +kernel
def RX8 : String := "Residueworks$Whole"
def TX8 : u_T := fun k => match k with
  | 0 => ("Residueworks$Whole", "limbs", "[I", true)
  | 1 => ("Residueworks$Whole", "size", "I", false)
  | _ => ("Residueworks$Whole", "sign", "I", false)
def tyX8 : Nat → FieldType := fun k => match k with
  | 0 => .array .int
  | 1 => .int
  | _ => .int
abbrev wsX80 : List Cond := u_ws RX8 TX8 3
theorem nmX8 : ∀ a, a < 3 → ∀ b, b < 3 → a ≠ b → (TX8 a).2.1 ≠ (TX8 b).2.1 := by decide +kernel
theorem tyX8_ok : ∀ k, k < 3 → parseFieldDescriptor (TX8 k).2.2.1 = some (tyX8 k) := by decide +kernel
def RX9 : String := "Residueworks"
def TX9 : u_T := fun k => match k with
  | 0 => ("Residueworks", "registers", "[LResidueworks$Whole;", true)
  | 1 => ("Residueworks", "text", "LResidueworks$Text;", true)
  | 2 => ("Residueworks", "row", "LResidueworks$Row;", true)
  | 3 => ("Residueworks", "division", "LResidueworks$Division;", true)
  | 4 => ("Residueworks", "residues", "LResidueworks$Residues;", true)
  | 5 => ("Residueworks", "roots", "LResidueworks$Roots;", true)
  | 6 => ("Residueworks", "conditions", "LResidueworks$Conditions;", true)
  | 7 => ("Residueworks", "theorem", "LResidueworks$Theorem;", true)
  | 8 => ("Residueworks", "result", "LResidueworks$Whole;", true)
  | _ => ("Residueworks", "aside", "LResidueworks$Whole;", true)
def tyX9 : Nat → FieldType := fun k => match k with
  | 0 => .array (.object "Residueworks$Whole")
  | 1 => .object "Residueworks$Text"
  | 2 => .object "Residueworks$Row"
  | 3 => .object "Residueworks$Division"
  | 4 => .object "Residueworks$Residues"
  | 5 => .object "Residueworks$Roots"
  | 6 => .object "Residueworks$Conditions"
  | 7 => .object "Residueworks$Theorem"
  | 8 => .object "Residueworks$Whole"
  | _ => .object "Residueworks$Whole"
abbrev wsX90 : List Cond := u_ws RX9 TX9 10
theorem nmX9 : ∀ a, a < 10 → ∀ b, b < 10 → a ≠ b → (TX9 a).2.1 ≠ (TX9 b).2.1 := by decide +kernel
theorem tyX9_ok : ∀ k, k < 10 → parseFieldDescriptor (TX9 k).2.2.1 = some (tyX9 k) := by decide +kernel
def RX10 : String := "ResidueworksModel$Whole"
def TX10 : u_T := fun k => match k with
  | 0 => ("ResidueworksModel$Whole", "sign", "I", true)
  | _ => ("ResidueworksModel$Whole", "row", "[I", true)
def tyX10 : Nat → FieldType := fun k => match k with
  | 0 => .int
  | _ => .array .int
abbrev wsX100 : List Cond := u_ws RX10 TX10 2
theorem nmX10 : ∀ a, a < 2 → ∀ b, b < 2 → a ≠ b → (TX10 a).2.1 ≠ (TX10 b).2.1 := by decide +kernel
theorem tyX10_ok : ∀ k, k < 2 → parseFieldDescriptor (TX10 k).2.2.1 = some (tyX10 k) := by decide +kernel
def RX11 : String := "ResidueworksModel"
def TX11 : u_T := fun k => match k with
  | 0 => ("ResidueworksModel", "registers", "[LResidueworksModel$Whole;", true)
  | 1 => ("ResidueworksModel", "text", "Ljava/lang/StringBuilder;", true)
  | 2 => ("ResidueworksModel", "row", "Ljava/util/List;", true)
  | 3 => ("ResidueworksModel", "rests", "Ljava/util/List;", true)
  | 4 => ("ResidueworksModel", "moduli", "Ljava/util/List;", true)
  | _ => ("ResidueworksModel", "thrown", "I", false)
def tyX11 : Nat → FieldType := fun k => match k with
  | 0 => .array (.object "ResidueworksModel$Whole")
  | 1 => .object "java/lang/StringBuilder"
  | 2 => .object "java/util/List"
  | 3 => .object "java/util/List"
  | 4 => .object "java/util/List"
  | _ => .int
abbrev wsX110 : List Cond := u_ws RX11 TX11 6
theorem nmX11 : ∀ a, a < 6 → ∀ b, b < 6 → a ≠ b → (TX11 a).2.1 ≠ (TX11 b).2.1 := by decide +kernel
theorem tyX11_ok : ∀ k, k < 6 → parseFieldDescriptor (TX11 k).2.2.1 = some (tyX11 k) := by decide +kernel
def RJ4 : String := "java/lang/StringBuilder"
def TJ4 : u_T := fun k => match k with
  | 0 => ("java/lang/AbstractStringBuilder", "value", "[B", false)
  | 1 => ("java/lang/AbstractStringBuilder", "coder", "B", false)
  | 2 => ("java/lang/AbstractStringBuilder", "maybeLatin1", "Z", false)
  | _ => ("java/lang/AbstractStringBuilder", "count", "I", false)
def tyJ4 : Nat → FieldType := fun k => match k with
  | 0 => .array .byte
  | 1 => .byte
  | 2 => .boolean
  | _ => .int
abbrev wsJ40 : List Cond := u_ws RJ4 TJ4 4
theorem nmJ4 : ∀ a, a < 4 → ∀ b, b < 4 → a ≠ b → (TJ4 a).2.1 ≠ (TJ4 b).2.1 := by decide +kernel
theorem tyJ4_ok : ∀ k, k < 4 → parseFieldDescriptor (TJ4 k).2.2.1 = some (tyJ4 k) := by decide +kernel
def RJx4a65c : String := "java/util/ArrayList"
def TJx4a65c : u_T := fun k => match k with
  | 0 => ("java/util/AbstractList", "modCount", "I", false)
  | 1 => ("java/util/ArrayList", "elementData", "[Ljava/lang/Object;", false)
  | _ => ("java/util/ArrayList", "size", "I", false)
def tyJx4a65c : Nat → FieldType := fun k => match k with
  | 0 => .int
  | 1 => .array (.object "java/lang/Object")
  | _ => .int
abbrev wsJx4a65c0 : List Cond := u_ws RJx4a65c TJx4a65c 3
theorem nmJx4a65c : ∀ a, a < 3 → ∀ b, b < 3 → a ≠ b → (TJx4a65c a).2.1 ≠ (TJx4a65c b).2.1 := by decide +kernel
theorem tyJx4a65c_ok : ∀ k, k < 3 → parseFieldDescriptor (TJx4a65c k).2.2.1 = some (tyJx4a65c k) := by decide +kernel
def RJx35411 : String := "java/util/ArrayList$Itr"
def TJx35411 : u_T := fun k => match k with
  | 0 => ("java/util/ArrayList$Itr", "cursor", "I", false)
  | 1 => ("java/util/ArrayList$Itr", "lastRet", "I", false)
  | 2 => ("java/util/ArrayList$Itr", "expectedModCount", "I", false)
  | _ => ("java/util/ArrayList$Itr", "this$0", "Ljava/util/ArrayList;", true)
def tyJx35411 : Nat → FieldType := fun k => match k with
  | 0 => .int
  | 1 => .int
  | 2 => .int
  | _ => .object "java/util/ArrayList"
abbrev wsJx354110 : List Cond := u_ws RJx35411 TJx35411 4
theorem nmJx35411 : ∀ a, a < 4 → ∀ b, b < 4 → a ≠ b → (TJx35411 a).2.1 ≠ (TJx35411 b).2.1 := by decide +kernel
theorem tyJx35411_ok : ∀ k, k < 4 → parseFieldDescriptor (TJx35411 k).2.2.1 = some (tyJx35411 k) := by decide +kernel
def RJ0 : String := "java/lang/String"
def TJ0 : u_T := fun k => match k with
  | 0 => ("java/lang/String", "value", "[B", true)
  | 1 => ("java/lang/String", "coder", "B", true)
  | 2 => ("java/lang/String", "hash", "I", false)
  | _ => ("java/lang/String", "hashIsZero", "Z", false)
def tyJ0 : Nat → FieldType := fun k => match k with
  | 0 => .array .byte
  | 1 => .byte
  | 2 => .int
  | _ => .boolean
abbrev wsJ00 : List Cond := u_ws RJ0 TJ0 4
theorem nmJ0 : ∀ a, a < 4 → ∀ b, b < 4 → a ≠ b → (TJ0 a).2.1 ≠ (TJ0 b).2.1 := by decide +kernel
theorem tyJ0_ok : ∀ k, k < 4 → parseFieldDescriptor (TJ0 k).2.2.1 = some (tyJ0 k) := by decide +kernel
def RJ6 : String := "java/lang/Integer"
def TJ6 : u_T := fun k => match k with
  | _ => ("java/lang/Integer", "value", "I", true)
def tyJ6 : Nat → FieldType := fun k => match k with
  | _ => .int
abbrev wsJ60 : List Cond := u_ws RJ6 TJ6 1
theorem nmJ6 : ∀ a, a < 1 → ∀ b, b < 1 → a ≠ b → (TJ6 a).2.1 ≠ (TJ6 b).2.1 := by decide +kernel
theorem tyJ6_ok : ∀ k, k < 1 → parseFieldDescriptor (TJ6 k).2.2.1 = some (tyJ6 k) := by decide +kernel
