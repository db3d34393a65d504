abbrev R_Checks : String := "SquareCodes$Checks"
abbrev R_Field : String := "SquareCodes$Field"
abbrev R_Grid : String := "SquareCodes$Grid"
abbrev R_Layout : String := "SquareCodes$Layout"
abbrev R_Reading : String := "SquareCodes$Reading"
abbrev R_TextReader : String := "SquareCodes$TextReader"
abbrev R_TextWriter : String := "SquareCodes$TextWriter"
abbrev R_SquareCodes : String := "SquareCodes"
abbrev R_Model : String := "SquareCodesModel"
abbrev R_Form : String := "SquareCodes$Form"
abbrev R_Kind : String := "SquareCodes$Kind"
abbrev R_Law : String := "SquareCodesLaw"
abbrev R_java_lang_Character : String := "java/lang/Character"
abbrev R_java_lang_Exception : String := "java/lang/Exception"
abbrev R_java_lang_IllegalArgumentException : String := "java/lang/IllegalArgumentException"
abbrev R_java_lang_IllegalStateException : String := "java/lang/IllegalStateException"
abbrev R_java_lang_Integer : String := "java/lang/Integer"
abbrev R_java_lang_Math : String := "java/lang/Math"
abbrev R_java_lang_Object : String := "java/lang/Object"
abbrev R_java_lang_RuntimeException : String := "java/lang/RuntimeException"
abbrev R_java_lang_String : String := "java/lang/String"
abbrev R_java_lang_StringLatin1 : String := "java/lang/StringLatin1"
abbrev R_java_lang_StringUTF16 : String := "java/lang/StringUTF16"
abbrev R_java_lang_Throwable : String := "java/lang/Throwable"
abbrev R_java_lang_UnsupportedOperationException : String := "java/lang/UnsupportedOperationException"
abbrev R_java_util_Arrays : String := "java/util/Arrays"
def F_Checks : u_T := fun k => match k with
  | 0 => ("SquareCodes$Checks", "field", "LSquareCodes$Field;", true)
  | 1 => ("SquareCodes$Checks", "generator", "[I", true)
  | 2 => ("SquareCodes$Checks", "rest", "[I", true)
  | 3 => ("SquareCodes$Checks", "sums", "[I", true)
  | 4 => ("SquareCodes$Checks", "locator", "[I", true)
  | 5 => ("SquareCodes$Checks", "former", "[I", true)
  | 6 => ("SquareCodes$Checks", "spare", "[I", true)
  | _ => ("SquareCodes$Checks", "evaluator", "[I", true)
def t_Checks : Nat → FieldType := fun k => match k with
  | 0 => .object "SquareCodes$Field"
  | 1 => .array .int
  | 2 => .array .int
  | 3 => .array .int
  | 4 => .array .int
  | 5 => .array .int
  | 6 => .array .int
  | _ => .array .int
theorem n_Checks : ∀ a, a < 8 → ∀ b, b < 8 → a ≠ b → (F_Checks a).2.1 ≠ (F_Checks b).2.1 := by decide +kernel
theorem t_Checks_ok : ∀ k, k < 8 → parseFieldDescriptor (F_Checks k).2.2.1 = some (t_Checks k) := by decide +kernel
def F_Field : u_T := fun k => match k with
  | 0 => ("SquareCodes$Field", "powers", "[I", true)
  | _ => ("SquareCodes$Field", "logs", "[I", true)
def t_Field : Nat → FieldType := fun k => match k with
  | 0 => .array .int
  | _ => .array .int
theorem n_Field : ∀ a, a < 2 → ∀ b, b < 2 → a ≠ b → (F_Field a).2.1 ≠ (F_Field b).2.1 := by decide +kernel
theorem t_Field_ok : ∀ k, k < 2 → parseFieldDescriptor (F_Field k).2.2.1 = some (t_Field k) := by decide +kernel
def F_Grid : u_T := fun k => match k with
  | _ => ("SquareCodes$Grid", "rows", "[I", true)
def t_Grid : Nat → FieldType := fun k => match k with
  | _ => .array .int
theorem n_Grid : ∀ a, a < 1 → ∀ b, b < 1 → a ≠ b → (F_Grid a).2.1 ≠ (F_Grid b).2.1 := by decide +kernel
theorem t_Grid_ok : ∀ k, k < 1 → parseFieldDescriptor (F_Grid k).2.2.1 = some (t_Grid k) := by decide +kernel
def F_Layout : u_T := fun k => match k with
  | 0 => ("SquareCodes$Layout", "fixedRows", "[I", true)
  | 1 => ("SquareCodes$Layout", "dataRows", "[I", true)
  | _ => ("SquareCodes$Layout", "dataColumns", "[I", true)
def t_Layout : Nat → FieldType := fun k => match k with
  | 0 => .array .int
  | 1 => .array .int
  | _ => .array .int
theorem n_Layout : ∀ a, a < 3 → ∀ b, b < 3 → a ≠ b → (F_Layout a).2.1 ≠ (F_Layout b).2.1 := by decide +kernel
theorem t_Layout_ok : ∀ k, k < 3 → parseFieldDescriptor (F_Layout k).2.2.1 = some (t_Layout k) := by decide +kernel
def F_Reading : u_T := fun k => match k with
  | 0 => ("SquareCodes$Reading", "facts", "[I", true)
  | 1 => ("SquareCodes$Reading", "bytes", "[I", true)
  | 2 => ("SquareCodes$Reading", "characters", "[C", true)
  | _ => ("SquareCodes$Reading", "count", "I", false)
def t_Reading : Nat → FieldType := fun k => match k with
  | 0 => .array .int
  | 1 => .array .int
  | 2 => .array .char
  | _ => .int
theorem n_Reading : ∀ a, a < 4 → ∀ b, b < 4 → a ≠ b → (F_Reading a).2.1 ≠ (F_Reading b).2.1 := by decide +kernel
theorem t_Reading_ok : ∀ k, k < 4 → parseFieldDescriptor (F_Reading k).2.2.1 = some (t_Reading k) := by decide +kernel
def F_TextReader : u_T := fun k => match k with
  | 0 => ("SquareCodes$TextReader", "characters", "[C", true)
  | 1 => ("SquareCodes$TextReader", "count", "I", false)
  | 2 => ("SquareCodes$TextReader", "next", "I", false)
  | _ => ("SquareCodes$TextReader", "end", "I", false)
def t_TextReader : Nat → FieldType := fun k => match k with
  | 0 => .array .char
  | 1 => .int
  | 2 => .int
  | _ => .int
theorem n_TextReader : ∀ a, a < 4 → ∀ b, b < 4 → a ≠ b → (F_TextReader a).2.1 ≠ (F_TextReader b).2.1 := by decide +kernel
theorem t_TextReader_ok : ∀ k, k < 4 → parseFieldDescriptor (F_TextReader k).2.2.1 = some (t_TextReader k) := by decide +kernel
def F_TextWriter : u_T := fun k => match k with
  | _ => ("SquareCodes$TextWriter", "used", "I", false)
def t_TextWriter : Nat → FieldType := fun k => match k with
  | _ => .int
theorem n_TextWriter : ∀ a, a < 1 → ∀ b, b < 1 → a ≠ b → (F_TextWriter a).2.1 ≠ (F_TextWriter b).2.1 := by decide +kernel
theorem t_TextWriter_ok : ∀ k, k < 1 → parseFieldDescriptor (F_TextWriter k).2.2.1 = some (t_TextWriter k) := by decide +kernel
def F_SquareCodes : u_T := fun k => match k with
  | 0 => ("SquareCodes", "typed", "[C", true)
  | 1 => ("SquareCodes", "typedCount", "I", false)
  | 2 => ("SquareCodes", "grid", "LSquareCodes$Grid;", true)
  | 3 => ("SquareCodes", "layout", "LSquareCodes$Layout;", true)
  | 4 => ("SquareCodes", "checks", "LSquareCodes$Checks;", true)
  | 5 => ("SquareCodes", "writer", "LSquareCodes$TextWriter;", true)
  | 6 => ("SquareCodes", "reader", "LSquareCodes$TextReader;", true)
  | 7 => ("SquareCodes", "latest", "LSquareCodes$Reading;", true)
  | _ => ("SquareCodes", "bytes", "[I", true)
def t_SquareCodes : Nat → FieldType := fun k => match k with
  | 0 => .array .char
  | 1 => .int
  | 2 => .object "SquareCodes$Grid"
  | 3 => .object "SquareCodes$Layout"
  | 4 => .object "SquareCodes$Checks"
  | 5 => .object "SquareCodes$TextWriter"
  | 6 => .object "SquareCodes$TextReader"
  | 7 => .object "SquareCodes$Reading"
  | _ => .array .int
theorem n_SquareCodes : ∀ a, a < 9 → ∀ b, b < 9 → a ≠ b → (F_SquareCodes a).2.1 ≠ (F_SquareCodes b).2.1 := by decide +kernel
theorem t_SquareCodes_ok : ∀ k, k < 9 → parseFieldDescriptor (F_SquareCodes k).2.2.1 = some (t_SquareCodes k) := by decide +kernel
def F_Model : u_T := fun k => match k with
  | 0 => ("SquareCodesModel", "fault", "I", false)
  | 1 => ("SquareCodesModel", "typed", "I", false)
  | 2 => ("SquareCodesModel", "text", "[I", true)
  | 3 => ("SquareCodesModel", "grid", "[I", true)
  | 4 => ("SquareCodesModel", "draft", "[I", true)
  | 5 => ("SquareCodesModel", "sort", "[I", true)
  | 6 => ("SquareCodesModel", "formAt", "[I", true)
  | 7 => ("SquareCodesModel", "dataAt", "[I", true)
  | 8 => ("SquareCodesModel", "bits", "[I", true)
  | 9 => ("SquareCodesModel", "many", "I", false)
  | 10 => ("SquareCodesModel", "bytes", "[I", true)
  | 11 => ("SquareCodesModel", "tried", "[I", true)
  | 12 => ("SquareCodesModel", "system", "[I", true)
  | 13 => ("SquareCodesModel", "solution", "[I", true)
  | 14 => ("SquareCodesModel", "syndrome", "[I", true)
  | 15 => ("SquareCodesModel", "spot", "[I", true)
  | 16 => ("SquareCodesModel", "place", "I", false)
  | 17 => ("SquareCodesModel", "found", "I", false)
  | 18 => ("SquareCodesModel", "reading", "[I", true)
  | 19 => ("SquareCodesModel", "length", "I", false)
  | 20 => ("SquareCodesModel", "known", "[I", true)
  | 21 => ("SquareCodesModel", "about", "[I", true)
  | 22 => ("SquareCodesModel", "any", "Z", false)
  | _ => ("SquareCodesModel", "kept", "[I", true)
def t_Model : Nat → FieldType := fun k => match k with
  | 0 => .int
  | 1 => .int
  | 2 => .array .int
  | 3 => .array .int
  | 4 => .array .int
  | 5 => .array .int
  | 6 => .array .int
  | 7 => .array .int
  | 8 => .array .int
  | 9 => .int
  | 10 => .array .int
  | 11 => .array .int
  | 12 => .array .int
  | 13 => .array .int
  | 14 => .array .int
  | 15 => .array .int
  | 16 => .int
  | 17 => .int
  | 18 => .array .int
  | 19 => .int
  | 20 => .array .int
  | 21 => .array .int
  | 22 => .boolean
  | _ => .array .int
theorem n_Model : ∀ a, a < 24 → ∀ b, b < 24 → a ≠ b → (F_Model a).2.1 ≠ (F_Model b).2.1 := by decide +kernel
theorem t_Model_ok : ∀ k, k < 24 → parseFieldDescriptor (F_Model k).2.2.1 = some (t_Model k) := by decide +kernel
abbrev classes : List vw_C := [(R_Checks, F_Checks, 8), (R_Field, F_Field, 2), (R_Grid, F_Grid, 1), (R_Layout, F_Layout, 3), (R_Reading, F_Reading, 4), (R_TextReader, F_TextReader, 4), (R_TextWriter, F_TextWriter, 1), (R_SquareCodes, F_SquareCodes, 9), (R_Model, F_Model, 24)]
abbrev y_q_init : MethodName := ⟨R_SquareCodes, "<init>", "()V"⟩
abbrev b_q_init : ByteArray := prog_1_method_1_code
abbrev cd_q_init : Cond := .code y_q_init b_q_init 1 none
abbrev y_q_type : MethodName := ⟨R_SquareCodes, "type", "(C)Z"⟩
abbrev b_q_type : ByteArray := prog_1_method_2_code
abbrev cd_q_type : Cond := .code y_q_type b_q_type 2 (some .boolean)
abbrev y_q_write : MethodName := ⟨R_SquareCodes, "write", "(II)I"⟩
abbrev b_q_write : ByteArray := prog_1_method_3_code
abbrev cd_q_write : Cond := .code y_q_write b_q_write 5 (some .int)
abbrev y_q_module : MethodName := ⟨R_SquareCodes, "module", "(II)I"⟩
abbrev b_q_module : ByteArray := prog_1_method_4_code
abbrev cd_q_module : Cond := .code y_q_module b_q_module 3 (some .int)
abbrev y_q_flip : MethodName := ⟨R_SquareCodes, "flip", "(II)I"⟩
abbrev b_q_flip : ByteArray := prog_1_method_5_code
abbrev cd_q_flip : Cond := .code y_q_flip b_q_flip 3 (some .int)
abbrev y_q_row : MethodName := ⟨R_SquareCodes, "row", "(I)I"⟩
abbrev b_q_row : ByteArray := prog_1_method_6_code
abbrev cd_q_row : Cond := .code y_q_row b_q_row 2 (some .int)
abbrev y_q_ugliness : MethodName := ⟨R_SquareCodes, "ugliness", "()I"⟩
abbrev b_q_ugliness : ByteArray := prog_1_method_7_code
abbrev cd_q_ugliness : Cond := .code y_q_ugliness b_q_ugliness 1 (some .int)
abbrev y_q_read : MethodName := ⟨R_SquareCodes, "read", "()I"⟩
abbrev b_q_read : ByteArray := prog_1_method_8_code
abbrev cd_q_read : Cond := .code y_q_read b_q_read 6 (some .int)
abbrev y_q_text : MethodName := ⟨R_SquareCodes, "text", "(I)I"⟩
abbrev b_q_text : ByteArray := prog_1_method_9_code
abbrev cd_q_text : Cond := .code y_q_text b_q_text 2 (some .int)
abbrev y_q_told : MethodName := ⟨R_SquareCodes, "told", "(I)I"⟩
abbrev b_q_told : ByteArray := prog_1_method_10_code
abbrev cd_q_told : Cond := .code y_q_told b_q_told 2 (some .int)
abbrev y_q_taken : MethodName := ⟨R_SquareCodes, "taken", "(I)I"⟩
abbrev b_q_taken : ByteArray := prog_1_method_11_code
abbrev cd_q_taken : Cond := .code y_q_taken b_q_taken 2 (some .int)
abbrev y_q_bestMask : MethodName := ⟨R_SquareCodes, "bestMask", "(I)I"⟩
abbrev b_q_bestMask : ByteArray := prog_1_method_12_code
abbrev cd_q_bestMask : Cond := .code y_q_bestMask b_q_bestMask 6 (some .int)
abbrev y_q_isInside : MethodName := ⟨R_SquareCodes, "isInside", "(II)Z"⟩
abbrev b_q_isInside : ByteArray := prog_1_method_13_code
abbrev cd_q_isInside : Cond := .code y_q_isInside b_q_isInside 2 (some .boolean)
abbrev y_q_isLine : MethodName := ⟨R_SquareCodes, "isLine", "(I)Z"⟩
abbrev b_q_isLine : ByteArray := prog_1_method_14_code
abbrev cd_q_isLine : Cond := .code y_q_isLine b_q_isLine 1 (some .boolean)
abbrev y_q_bitOf : MethodName := ⟨R_SquareCodes, "bitOf", "([II)I"⟩
abbrev b_q_bitOf : ByteArray := prog_1_method_15_code
abbrev cd_q_bitOf : Cond := .code y_q_bitOf b_q_bitOf 2 (some .int)
abbrev y_m_init : MethodName := ⟨R_Model, "<init>", "()V"⟩
abbrev b_m_init : ByteArray := prog_12_method_1_code
abbrev cd_m_init : Cond := .code y_m_init b_m_init 7 none
abbrev y_m_thrown : MethodName := ⟨R_Model, "thrown", "()I"⟩
abbrev b_m_thrown : ByteArray := prog_12_method_2_code
abbrev cd_m_thrown : Cond := .code y_m_thrown b_m_thrown 1 (some .int)
abbrev y_m_when : MethodName := ⟨R_Model, "when", "(ZI)Z"⟩
abbrev b_m_when : ByteArray := prog_12_method_3_code
abbrev cd_m_when : Cond := .code y_m_when b_m_when 3 (some .boolean)
abbrev y_m_inCorner : MethodName := ⟨R_Model, "inCorner", "(II)Z"⟩
abbrev b_m_inCorner : ByteArray := prog_12_method_4_code
abbrev cd_m_inCorner : Cond := .code y_m_inCorner b_m_inCorner 2 (some .boolean)
abbrev y_m_isFixed : MethodName := ⟨R_Model, "isFixed", "(II)Z"⟩
abbrev b_m_isFixed : ByteArray := prog_12_method_5_code
abbrev cd_m_isFixed : Cond := .code y_m_isFixed b_m_isFixed 2 (some .boolean)
abbrev y_m_fixedAt : MethodName := ⟨R_Model, "fixedAt", "(II)I"⟩
abbrev b_m_fixedAt : ByteArray := prog_12_method_6_code
abbrev cd_m_fixedAt : Cond := .code y_m_fixedAt b_m_fixedAt 5 (some .int)
abbrev y_m_turns : MethodName := ⟨R_Model, "turns", "(III)Z"⟩
abbrev b_m_turns : ByteArray := prog_12_method_7_code
abbrev cd_m_turns : Cond := .code y_m_turns b_m_turns 4 (some .boolean)
abbrev y_m_form : MethodName := ⟨R_Model, "form", "(II)I"⟩
abbrev b_m_form : ByteArray := prog_12_method_8_code
abbrev cd_m_form : Cond := .code y_m_form b_m_form 5 (some .int)
abbrev y_m_checks : MethodName := ⟨R_Model, "checks", "(I)I"⟩
abbrev b_m_checks : ByteArray := prog_12_method_9_code
abbrev cd_m_checks : Cond := .code y_m_checks b_m_checks 1 (some .int)
abbrev y_m_times : MethodName := ⟨R_Model, "times", "(II)I"⟩
abbrev b_m_times : ByteArray := prog_12_method_10_code
abbrev cd_m_times : Cond := .code y_m_times b_m_times 5 (some .int)
abbrev y_m_power : MethodName := ⟨R_Model, "power", "(I)I"⟩
abbrev b_m_power : ByteArray := prog_12_method_11_code
abbrev cd_m_power : Cond := .code y_m_power b_m_power 3 (some .int)
abbrev y_m_inverse : MethodName := ⟨R_Model, "inverse", "(I)I"⟩
abbrev b_m_inverse : ByteArray := prog_12_method_12_code
abbrev cd_m_inverse : Cond := .code y_m_inverse b_m_inverse 2 (some .int)
abbrev y_m_type : MethodName := ⟨R_Model, "type", "(C)Z"⟩
abbrev b_m_type : ByteArray := prog_12_method_13_code
abbrev cd_m_type : Cond := .code y_m_type b_m_type 2 (some .boolean)
abbrev y_m_plain : MethodName := ⟨R_Model, "plain", "(I)I"⟩
abbrev b_m_plain : ByteArray := prog_12_method_14_code
abbrev cd_m_plain : Cond := .code y_m_plain b_m_plain 1 (some .int)
abbrev y_m_kindOfText : MethodName := ⟨R_Model, "kindOfText", "()I"⟩
abbrev b_m_kindOfText : ByteArray := prog_12_method_15_code
abbrev cd_m_kindOfText : Cond := .code y_m_kindOfText b_m_kindOfText 4 (some .int)
abbrev y_m_put : MethodName := ⟨R_Model, "put", "(II)V"⟩
abbrev b_m_put : ByteArray := prog_12_method_16_code
abbrev cd_m_put : Cond := .code y_m_put b_m_put 4 none
abbrev y_m_putText : MethodName := ⟨R_Model, "putText", "(I)V"⟩
abbrev b_m_putText : ByteArray := prog_12_method_17_code
abbrev cd_m_putText : Cond := .code y_m_putText b_m_putText 6 none
abbrev y_m_check : MethodName := ⟨R_Model, "check", "(I)V"⟩
abbrev b_m_check : ByteArray := prog_12_method_18_code
abbrev cd_m_check : Cond := .code y_m_check b_m_check 5 none
abbrev y_m_draw : MethodName := ⟨R_Model, "draw", "(II)V"⟩
abbrev b_m_draw : ByteArray := prog_12_method_19_code
abbrev cd_m_draw : Cond := .code y_m_draw b_m_draw 7 none
abbrev y_m_write : MethodName := ⟨R_Model, "write", "(II)I"⟩
abbrev b_m_write : ByteArray := prog_12_method_20_code
abbrev cd_m_write : Cond := .code y_m_write b_m_write 8 (some .int)
abbrev y_m_inLine : MethodName := ⟨R_Model, "inLine", "(II)I"⟩
abbrev b_m_inLine : ByteArray := prog_12_method_21_code
abbrev cd_m_inLine : Cond := .code y_m_inLine b_m_inLine 3 (some .int)
abbrev y_m_runs : MethodName := ⟨R_Model, "runs", "(I)I"⟩
abbrev b_m_runs : ByteArray := prog_12_method_22_code
abbrev cd_m_runs : Cond := .code y_m_runs b_m_runs 5 (some .int)
abbrev y_m_marks : MethodName := ⟨R_Model, "marks", "(I)I"⟩
abbrev b_m_marks : ByteArray := prog_12_method_23_code
abbrev cd_m_marks : Cond := .code y_m_marks b_m_marks 6 (some .int)
abbrev y_m_ugly : MethodName := ⟨R_Model, "ugly", "()I"⟩
abbrev b_m_ugly : ByteArray := prog_12_method_24_code
abbrev cd_m_ugly : Cond := .code y_m_ugly b_m_ugly 5 (some .int)
abbrev y_m_ugliness : MethodName := ⟨R_Model, "ugliness", "()I"⟩
abbrev b_m_ugliness : ByteArray := prog_12_method_25_code
abbrev cd_m_ugliness : Cond := .code y_m_ugliness b_m_ugliness 2 (some .int)
abbrev y_m_isModule : MethodName := ⟨R_Model, "isModule", "(II)Z"⟩
abbrev b_m_isModule : ByteArray := prog_12_method_26_code
abbrev cd_m_isModule : Cond := .code y_m_isModule b_m_isModule 2 (some .boolean)
abbrev y_m_module : MethodName := ⟨R_Model, "module", "(II)I"⟩
abbrev b_m_module : ByteArray := prog_12_method_27_code
abbrev cd_m_module : Cond := .code y_m_module b_m_module 3 (some .int)
abbrev y_m_flip : MethodName := ⟨R_Model, "flip", "(II)I"⟩
abbrev b_m_flip : ByteArray := prog_12_method_28_code
abbrev cd_m_flip : Cond := .code y_m_flip b_m_flip 3 (some .int)
abbrev y_m_row : MethodName := ⟨R_Model, "row", "(I)I"⟩
abbrev b_m_row : ByteArray := prog_12_method_29_code
abbrev cd_m_row : Cond := .code y_m_row b_m_row 4 (some .int)
abbrev y_m_formOf : MethodName := ⟨R_Model, "formOf", "(I)I"⟩
abbrev b_m_formOf : ByteArray := prog_12_method_30_code
abbrev cd_m_formOf : Cond := .code y_m_formOf b_m_formOf 7 (some .int)
abbrev y_m_takeBytes : MethodName := ⟨R_Model, "takeBytes", "(I)V"⟩
abbrev b_m_takeBytes : ByteArray := prog_12_method_31_code
abbrev cd_m_takeBytes : Cond := .code y_m_takeBytes b_m_takeBytes 5 none
abbrev y_m_at : MethodName := ⟨R_Model, "at", "(I)I"⟩
abbrev b_m_at : ByteArray := prog_12_method_32_code
abbrev cd_m_at : Cond := .code y_m_at b_m_at 5 (some .int)
abbrev y_m_isRight : MethodName := ⟨R_Model, "isRight", "(I)Z"⟩
abbrev b_m_isRight : ByteArray := prog_12_method_33_code
abbrev cd_m_isRight : Cond := .code y_m_isRight b_m_isRight 4 (some .boolean)
abbrev y_m_solve : MethodName := ⟨R_Model, "solve", "(I)Z"⟩
abbrev b_m_solve : ByteArray := prog_12_method_34_code
abbrev cd_m_solve : Cond := .code y_m_solve b_m_solve 9 (some .boolean)
abbrev y_m_spots : MethodName := ⟨R_Model, "spots", "(I)Z"⟩
abbrev b_m_spots : ByteArray := prog_12_method_35_code
abbrev cd_m_spots : Cond := .code y_m_spots b_m_spots 7 (some .boolean)
abbrev y_m_mend : MethodName := ⟨R_Model, "mend", "(II)Z"⟩
abbrev b_m_mend : ByteArray := prog_12_method_36_code
abbrev cd_m_mend : Cond := .code y_m_mend b_m_mend 5 (some .boolean)
abbrev y_m_next : MethodName := ⟨R_Model, "next", "(I)I"⟩
abbrev b_m_next : ByteArray := prog_12_method_37_code
abbrev cd_m_next : Cond := .code y_m_next b_m_next 4 (some .int)
abbrev y_m_group : MethodName := ⟨R_Model, "group", "(IIII)Z"⟩
abbrev b_m_group : ByteArray := prog_12_method_38_code
abbrev cd_m_group : Cond := .code y_m_group b_m_group 8 (some .boolean)
abbrev y_m_character : MethodName := ⟨R_Model, "character", "(I)I"⟩
abbrev b_m_character : ByteArray := prog_12_method_39_code
abbrev cd_m_character : Cond := .code y_m_character b_m_character 1 (some .int)
abbrev y_m_characters : MethodName := ⟨R_Model, "characters", "(II)Z"⟩
abbrev b_m_characters : ByteArray := prog_12_method_40_code
abbrev cd_m_characters : Cond := .code y_m_characters b_m_characters 9 (some .boolean)
abbrev y_m_readText : MethodName := ⟨R_Model, "readText", "(I)Z"⟩
abbrev b_m_readText : ByteArray := prog_12_method_41_code
abbrev cd_m_readText : Cond := .code y_m_readText b_m_readText 5 (some .boolean)
abbrev y_m_read : MethodName := ⟨R_Model, "read", "()I"⟩
abbrev b_m_read : ByteArray := prog_12_method_42_code
abbrev cd_m_read : Cond := .code y_m_read b_m_read 6 (some .int)
abbrev y_m_text : MethodName := ⟨R_Model, "text", "(I)I"⟩
abbrev b_m_text : ByteArray := prog_12_method_43_code
abbrev cd_m_text : Cond := .code y_m_text b_m_text 2 (some .int)
abbrev y_m_told : MethodName := ⟨R_Model, "told", "(I)I"⟩
abbrev b_m_told : ByteArray := prog_12_method_44_code
abbrev cd_m_told : Cond := .code y_m_told b_m_told 2 (some .int)
abbrev y_m_taken : MethodName := ⟨R_Model, "taken", "(I)I"⟩
abbrev b_m_taken : ByteArray := prog_12_method_45_code
abbrev cd_m_taken : Cond := .code y_m_taken b_m_taken 2 (some .int)
abbrev y_q_Checks_init : MethodName := ⟨R_Checks, "<init>", "()V"⟩
abbrev b_q_Checks_init : ByteArray := prog_2_method_1_code
abbrev cd_q_Checks_init : Cond := .code y_q_Checks_init b_q_Checks_init 1 none
abbrev y_q_Checks_append : MethodName := ⟨R_Checks, "append", "([II)V"⟩
abbrev b_q_Checks_append : ByteArray := prog_2_method_2_code
abbrev cd_q_Checks_append : Cond := .code y_q_Checks_append b_q_Checks_append 7 none
abbrev y_q_Checks_makeGenerator : MethodName := ⟨R_Checks, "makeGenerator", "(I)V"⟩
abbrev b_q_Checks_makeGenerator : ByteArray := prog_2_method_3_code
abbrev cd_q_Checks_makeGenerator : Cond := .code y_q_Checks_makeGenerator b_q_Checks_makeGenerator 4 none
abbrev y_q_Checks_repair : MethodName := ⟨R_Checks, "repair", "([II)I"⟩
abbrev b_q_Checks_repair : ByteArray := prog_2_method_4_code
abbrev cd_q_Checks_repair : Cond := .code y_q_Checks_repair b_q_Checks_repair 6 (some .int)
abbrev y_q_Checks_areRight : MethodName := ⟨R_Checks, "areRight", "([II)Z"⟩
abbrev b_q_Checks_areRight : ByteArray := prog_2_method_5_code
abbrev cd_q_Checks_areRight : Cond := .code y_q_Checks_areRight b_q_Checks_areRight 7 (some .boolean)
abbrev y_q_Checks_findLocator : MethodName := ⟨R_Checks, "findLocator", "(I)I"⟩
abbrev b_q_Checks_findLocator : ByteArray := prog_2_method_6_code
abbrev cd_q_Checks_findLocator : Cond := .code y_q_Checks_findLocator b_q_Checks_findLocator 8 (some .int)
abbrev y_q_Checks_missAt : MethodName := ⟨R_Checks, "missAt", "(II)I"⟩
abbrev b_q_Checks_missAt : ByteArray := prog_2_method_7_code
abbrev cd_q_Checks_missAt : Cond := .code y_q_Checks_missAt b_q_Checks_missAt 5 (some .int)
abbrev y_q_Checks_addShifted : MethodName := ⟨R_Checks, "addShifted", "(II)V"⟩
abbrev b_q_Checks_addShifted : ByteArray := prog_2_method_8_code
abbrev cd_q_Checks_addShifted : Cond := .code y_q_Checks_addShifted b_q_Checks_addShifted 4 none
abbrev y_q_Checks_findEvaluator : MethodName := ⟨R_Checks, "findEvaluator", "(I)V"⟩
abbrev b_q_Checks_findEvaluator : ByteArray := prog_2_method_9_code
abbrev cd_q_Checks_findEvaluator : Cond := .code y_q_Checks_findEvaluator b_q_Checks_findEvaluator 4 none
abbrev y_q_Checks_changeWrongBytes : MethodName := ⟨R_Checks, "changeWrongBytes", "([I)I"⟩
abbrev b_q_Checks_changeWrongBytes : ByteArray := prog_2_method_10_code
abbrev cd_q_Checks_changeWrongBytes : Cond := .code y_q_Checks_changeWrongBytes b_q_Checks_changeWrongBytes 6 (some .int)
abbrev y_q_Checks_changeAt : MethodName := ⟨R_Checks, "changeAt", "(I)I"⟩
abbrev b_q_Checks_changeAt : ByteArray := prog_2_method_11_code
abbrev cd_q_Checks_changeAt : Cond := .code y_q_Checks_changeAt b_q_Checks_changeAt 4 (some .int)
abbrev y_q_Checks_valueAt : MethodName := ⟨R_Checks, "valueAt", "([II)I"⟩
abbrev b_q_Checks_valueAt : ByteArray := prog_2_method_12_code
abbrev cd_q_Checks_valueAt : Cond := .code y_q_Checks_valueAt b_q_Checks_valueAt 5 (some .int)
abbrev y_q_Field_init : MethodName := ⟨R_Field, "<init>", "()V"⟩
abbrev b_q_Field_init : ByteArray := prog_3_method_1_code
abbrev cd_q_Field_init : Cond := .code y_q_Field_init b_q_Field_init 3 none
abbrev y_q_Field_power : MethodName := ⟨R_Field, "power", "(I)I"⟩
abbrev b_q_Field_power : ByteArray := prog_3_method_2_code
abbrev cd_q_Field_power : Cond := .code y_q_Field_power b_q_Field_power 2 (some .int)
abbrev y_q_Field_product : MethodName := ⟨R_Field, "product", "(II)I"⟩
abbrev b_q_Field_product : ByteArray := prog_3_method_3_code
abbrev cd_q_Field_product : Cond := .code y_q_Field_product b_q_Field_product 3 (some .int)
abbrev y_q_Field_quotient : MethodName := ⟨R_Field, "quotient", "(II)I"⟩
abbrev b_q_Field_quotient : ByteArray := prog_3_method_4_code
abbrev cd_q_Field_quotient : Cond := .code y_q_Field_quotient b_q_Field_quotient 3 (some .int)
abbrev y_q_Form_numberOf : MethodName := ⟨R_Form, "numberOf", "(II)I"⟩
abbrev b_q_Form_numberOf : ByteArray := prog_4_method_2_code
abbrev cd_q_Form_numberOf : Cond := .code y_q_Form_numberOf b_q_Form_numberOf 2 (some .int)
abbrev y_q_Form_levelOf : MethodName := ⟨R_Form, "levelOf", "(I)I"⟩
abbrev b_q_Form_levelOf : ByteArray := prog_4_method_3_code
abbrev cd_q_Form_levelOf : Cond := .code y_q_Form_levelOf b_q_Form_levelOf 1 (some .int)
abbrev y_q_Form_maskOf : MethodName := ⟨R_Form, "maskOf", "(I)I"⟩
abbrev b_q_Form_maskOf : ByteArray := prog_4_method_4_code
abbrev cd_q_Form_maskOf : Cond := .code y_q_Form_maskOf b_q_Form_maskOf 1 (some .int)
abbrev y_q_Form_bitsOf : MethodName := ⟨R_Form, "bitsOf", "(I)I"⟩
abbrev b_q_Form_bitsOf : ByteArray := prog_4_method_5_code
abbrev cd_q_Form_bitsOf : Cond := .code y_q_Form_bitsOf b_q_Form_bitsOf 3 (some .int)
abbrev y_q_Form_nearest : MethodName := ⟨R_Form, "nearest", "(I)I"⟩
abbrev b_q_Form_nearest : ByteArray := prog_4_method_6_code
abbrev cd_q_Form_nearest : Cond := .code y_q_Form_nearest b_q_Form_nearest 2 (some .int)
abbrev y_q_Grid_init : MethodName := ⟨R_Grid, "<init>", "()V"⟩
abbrev b_q_Grid_init : ByteArray := prog_5_method_1_code
abbrev cd_q_Grid_init : Cond := .code y_q_Grid_init b_q_Grid_init 1 none
abbrev y_q_Grid_at : MethodName := ⟨R_Grid, "at", "(II)I"⟩
abbrev b_q_Grid_at : ByteArray := prog_5_method_2_code
abbrev cd_q_Grid_at : Cond := .code y_q_Grid_at b_q_Grid_at 3 (some .int)
abbrev y_q_Grid_rowBits : MethodName := ⟨R_Grid, "rowBits", "(I)I"⟩
abbrev b_q_Grid_rowBits : ByteArray := prog_5_method_3_code
abbrev cd_q_Grid_rowBits : Cond := .code y_q_Grid_rowBits b_q_Grid_rowBits 2 (some .int)
abbrev y_q_Grid_turnOver : MethodName := ⟨R_Grid, "turnOver", "(II)V"⟩
abbrev b_q_Grid_turnOver : ByteArray := prog_5_method_4_code
abbrev cd_q_Grid_turnOver : Cond := .code y_q_Grid_turnOver b_q_Grid_turnOver 3 none
abbrev y_q_Grid_copyRows : MethodName := ⟨R_Grid, "copyRows", "([I)V"⟩
abbrev b_q_Grid_copyRows : ByteArray := prog_5_method_5_code
abbrev cd_q_Grid_copyRows : Cond := .code y_q_Grid_copyRows b_q_Grid_copyRows 2 none
abbrev y_q_Grid_penalty : MethodName := ⟨R_Grid, "penalty", "()I"⟩
abbrev b_q_Grid_penalty : ByteArray := prog_5_method_6_code
abbrev cd_q_Grid_penalty : Cond := .code y_q_Grid_penalty b_q_Grid_penalty 3 (some .int)
abbrev y_q_Grid_columnBits : MethodName := ⟨R_Grid, "columnBits", "(I)I"⟩
abbrev b_q_Grid_columnBits : ByteArray := prog_5_method_7_code
abbrev cd_q_Grid_columnBits : Cond := .code y_q_Grid_columnBits b_q_Grid_columnBits 4 (some .int)
abbrev y_q_Grid_penaltyOfLine : MethodName := ⟨R_Grid, "penaltyOfLine", "(I)I"⟩
abbrev b_q_Grid_penaltyOfLine : ByteArray := prog_5_method_8_code
abbrev cd_q_Grid_penaltyOfLine : Cond := .code y_q_Grid_penaltyOfLine b_q_Grid_penaltyOfLine 1 (some .int)
abbrev y_q_Grid_penaltyOfRuns : MethodName := ⟨R_Grid, "penaltyOfRuns", "(I)I"⟩
abbrev b_q_Grid_penaltyOfRuns : ByteArray := prog_5_method_9_code
abbrev cd_q_Grid_penaltyOfRuns : Cond := .code y_q_Grid_penaltyOfRuns b_q_Grid_penaltyOfRuns 4 (some .int)
abbrev y_q_Grid_penaltyOfEyes : MethodName := ⟨R_Grid, "penaltyOfEyes", "(I)I"⟩
abbrev b_q_Grid_penaltyOfEyes : ByteArray := prog_5_method_10_code
abbrev cd_q_Grid_penaltyOfEyes : Cond := .code y_q_Grid_penaltyOfEyes b_q_Grid_penaltyOfEyes 4 (some .int)
abbrev y_q_Grid_penaltyOfSquares : MethodName := ⟨R_Grid, "penaltyOfSquares", "()I"⟩
abbrev b_q_Grid_penaltyOfSquares : ByteArray := prog_5_method_11_code
abbrev cd_q_Grid_penaltyOfSquares : Cond := .code y_q_Grid_penaltyOfSquares b_q_Grid_penaltyOfSquares 5 (some .int)
abbrev y_q_Grid_penaltyOfBalance : MethodName := ⟨R_Grid, "penaltyOfBalance", "()I"⟩
abbrev b_q_Grid_penaltyOfBalance : ByteArray := prog_5_method_12_code
abbrev cd_q_Grid_penaltyOfBalance : Cond := .code y_q_Grid_penaltyOfBalance b_q_Grid_penaltyOfBalance 3 (some .int)
abbrev y_q_Kind_withCode : MethodName := ⟨R_Kind, "withCode", "(I)LSquareCodes$Kind;"⟩
abbrev b_q_Kind_withCode : ByteArray := prog_6_method_4_code
abbrev cd_q_Kind_withCode : Cond := .code y_q_Kind_withCode b_q_Kind_withCode 5 (some (.object "SquareCodes$Kind"))
abbrev y_q_Kind_fitting : MethodName := ⟨R_Kind, "fitting", "([CI)LSquareCodes$Kind;"⟩
abbrev b_q_Kind_fitting : ByteArray := prog_6_method_5_code
abbrev cd_q_Kind_fitting : Cond := .code y_q_Kind_fitting b_q_Kind_fitting 6 (some (.object "SquareCodes$Kind"))
abbrev y_q_Kind_hasAll : MethodName := ⟨R_Kind, "hasAll", "([CI)Z"⟩
abbrev b_q_Kind_hasAll : ByteArray := prog_6_method_6_code
abbrev cd_q_Kind_hasAll : Cond := .code y_q_Kind_hasAll b_q_Kind_hasAll 4 (some .boolean)
abbrev y_q_Kind_valueOfCharacter : MethodName := ⟨R_Kind, "valueOfCharacter", "(C)I"⟩
abbrev b_q_Kind_valueOfCharacter : ByteArray := prog_6_method_7_code
abbrev cd_q_Kind_valueOfCharacter : Cond := .code y_q_Kind_valueOfCharacter b_q_Kind_valueOfCharacter 3 (some .int)
abbrev y_q_Kind_characterOf : MethodName := ⟨R_Kind, "characterOf", "(I)C"⟩
abbrev b_q_Kind_characterOf : ByteArray := prog_6_method_8_code
abbrev cd_q_Kind_characterOf : Cond := .code y_q_Kind_characterOf b_q_Kind_characterOf 2 (some .char)
abbrev y_q_Kind_groupBits : MethodName := ⟨R_Kind, "groupBits", "(I)I"⟩
abbrev b_q_Kind_groupBits : ByteArray := prog_6_method_9_code
abbrev cd_q_Kind_groupBits : Cond := .code y_q_Kind_groupBits b_q_Kind_groupBits 2 (some .int)
abbrev y_q_Kind_groupLimit : MethodName := ⟨R_Kind, "groupLimit", "(I)I"⟩
abbrev b_q_Kind_groupLimit : ByteArray := prog_6_method_10_code
abbrev cd_q_Kind_groupLimit : Cond := .code y_q_Kind_groupLimit b_q_Kind_groupLimit 4 (some .int)
abbrev y_q_Kind_bitsFor : MethodName := ⟨R_Kind, "bitsFor", "(I)I"⟩
abbrev b_q_Kind_bitsFor : ByteArray := prog_6_method_11_code
abbrev cd_q_Kind_bitsFor : Cond := .code y_q_Kind_bitsFor b_q_Kind_bitsFor 4 (some .int)
abbrev y_q_Layout_init : MethodName := ⟨R_Layout, "<init>", "()V"⟩
abbrev b_q_Layout_init : ByteArray := prog_7_method_1_code
abbrev cd_q_Layout_init : Cond := .code y_q_Layout_init b_q_Layout_init 3 none
abbrev y_q_Layout_drawEye : MethodName := ⟨R_Layout, "drawEye", "(LSquareCodes$Grid;II)V"⟩
abbrev b_q_Layout_drawEye : ByteArray := prog_7_method_2_code
abbrev cd_q_Layout_drawEye : Cond := .code y_q_Layout_drawEye b_q_Layout_drawEye 5 none
abbrev y_q_Layout_isDarkInEye : MethodName := ⟨R_Layout, "isDarkInEye", "(II)Z"⟩
abbrev b_q_Layout_isDarkInEye : ByteArray := prog_7_method_3_code
abbrev cd_q_Layout_isDarkInEye : Cond := .code y_q_Layout_isDarkInEye b_q_Layout_isDarkInEye 4 (some .boolean)
abbrev y_q_Layout_drawDots : MethodName := ⟨R_Layout, "drawDots", "(LSquareCodes$Grid;)V"⟩
abbrev b_q_Layout_drawDots : ByteArray := prog_7_method_4_code
abbrev cd_q_Layout_drawDots : Cond := .code y_q_Layout_drawDots b_q_Layout_drawDots 2 none
abbrev y_q_Layout_fillOrder : MethodName := ⟨R_Layout, "fillOrder", "([I[I)V"⟩
abbrev b_q_Layout_fillOrder : ByteArray := prog_7_method_5_code
abbrev cd_q_Layout_fillOrder : Cond := .code y_q_Layout_fillOrder b_q_Layout_fillOrder 8 none
abbrev y_q_Layout_isData : MethodName := ⟨R_Layout, "isData", "(II)Z"⟩
abbrev b_q_Layout_isData : ByteArray := prog_7_method_6_code
abbrev cd_q_Layout_isData : Cond := .code y_q_Layout_isData b_q_Layout_isData 3 (some .boolean)
abbrev y_q_Layout_isTurned : MethodName := ⟨R_Layout, "isTurned", "(III)Z"⟩
abbrev b_q_Layout_isTurned : ByteArray := prog_7_method_7_code
abbrev cd_q_Layout_isTurned : Cond := .code y_q_Layout_isTurned b_q_Layout_isTurned 4 (some .boolean)
abbrev y_q_Layout_putDown : MethodName := ⟨R_Layout, "putDown", "(LSquareCodes$Grid;[III)V"⟩
abbrev b_q_Layout_putDown : ByteArray := prog_7_method_8_code
abbrev cd_q_Layout_putDown : Cond := .code y_q_Layout_putDown b_q_Layout_putDown 8 none
abbrev y_q_Layout_pickUp : MethodName := ⟨R_Layout, "pickUp", "(LSquareCodes$Grid;[II)V"⟩
abbrev b_q_Layout_pickUp : ByteArray := prog_7_method_9_code
abbrev cd_q_Layout_pickUp : Cond := .code y_q_Layout_pickUp b_q_Layout_pickUp 6 none
abbrev y_q_Layout_firstCopy : MethodName := ⟨R_Layout, "firstCopy", "(LSquareCodes$Grid;)I"⟩
abbrev b_q_Layout_firstCopy : ByteArray := prog_7_method_10_code
abbrev cd_q_Layout_firstCopy : Cond := .code y_q_Layout_firstCopy b_q_Layout_firstCopy 2 (some .int)
abbrev y_q_Layout_secondCopy : MethodName := ⟨R_Layout, "secondCopy", "(LSquareCodes$Grid;)I"⟩
abbrev b_q_Layout_secondCopy : ByteArray := prog_7_method_11_code
abbrev cd_q_Layout_secondCopy : Cond := .code y_q_Layout_secondCopy b_q_Layout_secondCopy 2 (some .int)
abbrev y_q_Layout_putForm : MethodName := ⟨R_Layout, "putForm", "(LSquareCodes$Grid;I[I[I)V"⟩
abbrev b_q_Layout_putForm : ByteArray := prog_7_method_12_code
abbrev cd_q_Layout_putForm : Cond := .code y_q_Layout_putForm b_q_Layout_putForm 5 none
abbrev y_q_Layout_formAt : MethodName := ⟨R_Layout, "formAt", "(LSquareCodes$Grid;[I[I)I"⟩
abbrev b_q_Layout_formAt : ByteArray := prog_7_method_13_code
abbrev cd_q_Layout_formAt : Cond := .code y_q_Layout_formAt b_q_Layout_formAt 5 (some .int)
abbrev y_q_Reading_init : MethodName := ⟨R_Reading, "<init>", "()V"⟩
abbrev b_q_Reading_init : ByteArray := prog_8_method_1_code
abbrev cd_q_Reading_init : Cond := .code y_q_Reading_init b_q_Reading_init 1 none
abbrev y_q_Reading_keepTold : MethodName := ⟨R_Reading, "keepTold", "(IIIZ)V"⟩
abbrev b_q_Reading_keepTold : ByteArray := prog_8_method_2_code
abbrev cd_q_Reading_keepTold : Cond := .code y_q_Reading_keepTold b_q_Reading_keepTold 5 none
abbrev y_q_Reading_keepBytes : MethodName := ⟨R_Reading, "keepBytes", "([I)V"⟩
abbrev b_q_Reading_keepBytes : ByteArray := prog_8_method_3_code
abbrev cd_q_Reading_keepBytes : Cond := .code y_q_Reading_keepBytes b_q_Reading_keepBytes 2 none
abbrev y_q_Reading_keepText : MethodName := ⟨R_Reading, "keepText", "(LSquareCodes$TextReader;)V"⟩
abbrev b_q_Reading_keepText : ByteArray := prog_8_method_4_code
abbrev cd_q_Reading_keepText : Cond := .code y_q_Reading_keepText b_q_Reading_keepText 2 none
abbrev y_q_Reading_length : MethodName := ⟨R_Reading, "length", "()I"⟩
abbrev b_q_Reading_length : ByteArray := prog_8_method_5_code
abbrev cd_q_Reading_length : Cond := .code y_q_Reading_length b_q_Reading_length 1 (some .int)
abbrev y_q_Reading_character : MethodName := ⟨R_Reading, "character", "(I)I"⟩
abbrev b_q_Reading_character : ByteArray := prog_8_method_6_code
abbrev cd_q_Reading_character : Cond := .code y_q_Reading_character b_q_Reading_character 2 (some .int)
abbrev y_q_Reading_fact : MethodName := ⟨R_Reading, "fact", "(I)I"⟩
abbrev b_q_Reading_fact : ByteArray := prog_8_method_7_code
abbrev cd_q_Reading_fact : Cond := .code y_q_Reading_fact b_q_Reading_fact 2 (some .int)
abbrev y_q_Reading_byteAt : MethodName := ⟨R_Reading, "byteAt", "(I)I"⟩
abbrev b_q_Reading_byteAt : ByteArray := prog_8_method_8_code
abbrev cd_q_Reading_byteAt : Cond := .code y_q_Reading_byteAt b_q_Reading_byteAt 2 (some .int)
abbrev y_q_TextReader_init : MethodName := ⟨R_TextReader, "<init>", "()V"⟩
abbrev b_q_TextReader_init : ByteArray := prog_9_method_1_code
abbrev cd_q_TextReader_init : Cond := .code y_q_TextReader_init b_q_TextReader_init 1 none
abbrev y_q_TextReader_decode : MethodName := ⟨R_TextReader, "decode", "([II)Z"⟩
abbrev b_q_TextReader_decode : ByteArray := prog_9_method_2_code
abbrev cd_q_TextReader_decode : Cond := .code y_q_TextReader_decode b_q_TextReader_decode 6 (some .boolean)
abbrev y_q_TextReader_takePart : MethodName := ⟨R_TextReader, "takePart", "([ILSquareCodes$Kind;)Z"⟩
abbrev b_q_TextReader_takePart : ByteArray := prog_9_method_3_code
abbrev cd_q_TextReader_takePart : Cond := .code y_q_TextReader_takePart b_q_TextReader_takePart 7 (some .boolean)
abbrev y_q_TextReader_take : MethodName := ⟨R_TextReader, "take", "([II)I"⟩
abbrev b_q_TextReader_take : ByteArray := prog_9_method_4_code
abbrev cd_q_TextReader_take : Cond := .code y_q_TextReader_take b_q_TextReader_take 5 (some .int)
abbrev y_q_TextReader_keep : MethodName := ⟨R_TextReader, "keep", "(LSquareCodes$Kind;II)V"⟩
abbrev b_q_TextReader_keep : ByteArray := prog_9_method_5_code
abbrev cd_q_TextReader_keep : Cond := .code y_q_TextReader_keep b_q_TextReader_keep 6 none
abbrev y_q_TextReader_length : MethodName := ⟨R_TextReader, "length", "()I"⟩
abbrev b_q_TextReader_length : ByteArray := prog_9_method_6_code
abbrev cd_q_TextReader_length : Cond := .code y_q_TextReader_length b_q_TextReader_length 1 (some .int)
abbrev y_q_TextReader_copyTo : MethodName := ⟨R_TextReader, "copyTo", "([C)V"⟩
abbrev b_q_TextReader_copyTo : ByteArray := prog_9_method_7_code
abbrev cd_q_TextReader_copyTo : Cond := .code y_q_TextReader_copyTo b_q_TextReader_copyTo 2 none
abbrev y_q_TextWriter_init : MethodName := ⟨R_TextWriter, "<init>", "()V"⟩
abbrev b_q_TextWriter_init : ByteArray := prog_10_method_1_code
abbrev cd_q_TextWriter_init : Cond := .code y_q_TextWriter_init b_q_TextWriter_init 1 none
abbrev y_q_TextWriter_fillData : MethodName := ⟨R_TextWriter, "fillData", "([CI[II)Z"⟩
abbrev b_q_TextWriter_fillData : ByteArray := prog_10_method_2_code
abbrev cd_q_TextWriter_fillData : Cond := .code y_q_TextWriter_fillData b_q_TextWriter_fillData 7 (some .boolean)
abbrev y_q_TextWriter_putCharacters : MethodName := ⟨R_TextWriter, "putCharacters", "([ILSquareCodes$Kind;[CI)V"⟩
abbrev b_q_TextWriter_putCharacters : ByteArray := prog_10_method_3_code
abbrev cd_q_TextWriter_putCharacters : Cond := .code y_q_TextWriter_putCharacters b_q_TextWriter_putCharacters 8 none
abbrev y_q_TextWriter_put : MethodName := ⟨R_TextWriter, "put", "([III)V"⟩
abbrev b_q_TextWriter_put : ByteArray := prog_10_method_4_code
abbrev cd_q_TextWriter_put : Cond := .code y_q_TextWriter_put b_q_TextWriter_put 5 none
abbrev y_q_TextWriter_fillRest : MethodName := ⟨R_TextWriter, "fillRest", "([III)V"⟩
abbrev b_q_TextWriter_fillRest : ByteArray := prog_10_method_5_code
abbrev cd_q_TextWriter_fillRest : Cond := .code y_q_TextWriter_fillRest b_q_TextWriter_fillRest 4 none
abbrev y_law_write : MethodName := ⟨R_Law, "write", "(LSquareCodes;II[J)I"⟩
abbrev b_law_write : ByteArray := method_3_code
abbrev y_law_flip : MethodName := ⟨R_Law, "flip", "(LSquareCodes;II[J)I"⟩
abbrev b_law_flip : ByteArray := method_4_code
abbrev y_law_read : MethodName := ⟨R_Law, "read", "(LSquareCodes;[J)I"⟩
abbrev b_law_read : ByteArray := method_5_code
abbrev y_j_Object_init : MethodName := ⟨R_java_lang_Object, "<init>", "()V"⟩
abbrev b_j_Object_init : ByteArray := object_method_1_code
abbrev cd_j_Object_init : Cond := .code y_j_Object_init b_j_Object_init 1 none
abbrev y_j_Character_highSurrogate : MethodName := ⟨R_java_lang_Character, "highSurrogate", "(I)C"⟩
abbrev b_j_Character_highSurrogate : ByteArray := prog_13_method_28_code
abbrev cd_j_Character_highSurrogate : Cond := .code y_j_Character_highSurrogate b_j_Character_highSurrogate 1 (some .char)
abbrev y_j_Character_isValidCodePoint : MethodName := ⟨R_java_lang_Character, "isValidCodePoint", "(I)Z"⟩
abbrev b_j_Character_isValidCodePoint : ByteArray := prog_13_method_11_code
abbrev cd_j_Character_isValidCodePoint : Cond := .code y_j_Character_isValidCodePoint b_j_Character_isValidCodePoint 2 (some .boolean)
abbrev y_j_Character_lowSurrogate : MethodName := ⟨R_java_lang_Character, "lowSurrogate", "(I)C"⟩
abbrev b_j_Character_lowSurrogate : ByteArray := prog_13_method_29_code
abbrev cd_j_Character_lowSurrogate : Cond := .code y_j_Character_lowSurrogate b_j_Character_lowSurrogate 1 (some .char)
abbrev y_j_Exception_init : MethodName := ⟨R_java_lang_Exception, "<init>", "(Ljava/lang/String;)V"⟩
abbrev b_j_Exception_init : ByteArray := prog_15_method_2_code
abbrev cd_j_Exception_init : Cond := .code y_j_Exception_init b_j_Exception_init 2 none
abbrev y_j_IllegalArgumentException_init : MethodName := ⟨R_java_lang_IllegalArgumentException, "<init>", "(Ljava/lang/String;)V"⟩
abbrev b_j_IllegalArgumentException_init : ByteArray := prog_16_method_2_code
abbrev cd_j_IllegalArgumentException_init : Cond := .code y_j_IllegalArgumentException_init b_j_IllegalArgumentException_init 2 none
abbrev y_j_IllegalStateException_init : MethodName := ⟨R_java_lang_IllegalStateException, "<init>", "(Ljava/lang/String;)V"⟩
abbrev b_j_IllegalStateException_init : ByteArray := prog_17_method_2_code
abbrev cd_j_IllegalStateException_init : Cond := .code y_j_IllegalStateException_init b_j_IllegalStateException_init 2 none
abbrev y_j_Integer_bitCount : MethodName := ⟨R_java_lang_Integer, "bitCount", "(I)I"⟩
abbrev b_j_Integer_bitCount : ByteArray := prog_18_method_49_code
abbrev cd_j_Integer_bitCount : Cond := .code y_j_Integer_bitCount b_j_Integer_bitCount 1 (some .int)
abbrev y_j_Math_abs : MethodName := ⟨R_java_lang_Math, "abs", "(I)I"⟩
abbrev b_j_Math_abs : ByteArray := prog_19_method_59_code
abbrev cd_j_Math_abs : Cond := .code y_j_Math_abs b_j_Math_abs 1 (some .int)
abbrev y_j_Math_floorMod : MethodName := ⟨R_java_lang_Math, "floorMod", "(II)I"⟩
abbrev b_j_Math_floorMod : ByteArray := prog_19_method_50_code
abbrev cd_j_Math_floorMod : Cond := .code y_j_Math_floorMod b_j_Math_floorMod 3 (some .int)
abbrev y_j_Math_min : MethodName := ⟨R_java_lang_Math, "min", "(II)I"⟩
abbrev b_j_Math_min : ByteArray := prog_19_method_69_code
abbrev cd_j_Math_min : Cond := .code y_j_Math_min b_j_Math_min 2 (some .int)
abbrev y_j_RuntimeException_init : MethodName := ⟨R_java_lang_RuntimeException, "<init>", "(Ljava/lang/String;)V"⟩
abbrev b_j_RuntimeException_init : ByteArray := prog_20_method_2_code
abbrev cd_j_RuntimeException_init : Cond := .code y_j_RuntimeException_init b_j_RuntimeException_init 2 none
abbrev y_j_String_charAt : MethodName := ⟨R_java_lang_String, "charAt", "(I)C"⟩
abbrev b_j_String_charAt : ByteArray := prog_21_method_56_code
abbrev cd_j_String_charAt : Cond := .code y_j_String_charAt b_j_String_charAt 2 (some .char)
abbrev y_j_String_checkBoundsBeginEnd : MethodName := ⟨R_java_lang_String, "checkBoundsBeginEnd", "(III)V"⟩
abbrev b_j_String_checkBoundsBeginEnd : ByteArray := prog_21_method_158_code
abbrev cd_j_String_checkBoundsBeginEnd : Cond := .code y_j_String_checkBoundsBeginEnd b_j_String_checkBoundsBeginEnd 3 none
abbrev y_j_String_checkIndex : MethodName := ⟨R_java_lang_String, "checkIndex", "(II)V"⟩
abbrev b_j_String_checkIndex : ByteArray := prog_21_method_155_code
abbrev cd_j_String_checkIndex : Cond := .code y_j_String_checkIndex b_j_String_checkIndex 2 none
abbrev y_j_String_indexOf_0 : MethodName := ⟨R_java_lang_String, "indexOf", "(I)I"⟩
abbrev b_j_String_indexOf_0 : ByteArray := prog_21_method_79_code
abbrev cd_j_String_indexOf_0 : Cond := .code y_j_String_indexOf_0 b_j_String_indexOf_0 2 (some .int)
abbrev y_j_String_indexOf_1 : MethodName := ⟨R_java_lang_String, "indexOf", "(II)I"⟩
abbrev b_j_String_indexOf_1 : ByteArray := prog_21_method_80_code
abbrev cd_j_String_indexOf_1 : Cond := .code y_j_String_indexOf_1 b_j_String_indexOf_1 3 (some .int)
abbrev y_j_String_isLatin1 : MethodName := ⟨R_java_lang_String, "isLatin1", "()Z"⟩
abbrev b_j_String_isLatin1 : ByteArray := prog_21_method_154_code
abbrev cd_j_String_isLatin1 : Cond := .code y_j_String_isLatin1 b_j_String_isLatin1 1 (some .boolean)
abbrev y_j_StringLatin1_canEncode : MethodName := ⟨R_java_lang_StringLatin1, "canEncode", "(I)Z"⟩
abbrev b_j_StringLatin1_canEncode : ByteArray := prog_22_method_4_code
abbrev cd_j_StringLatin1_canEncode : Cond := .code y_j_StringLatin1_canEncode b_j_StringLatin1_canEncode 1 (some .boolean)
abbrev y_j_StringLatin1_charAt : MethodName := ⟨R_java_lang_StringLatin1, "charAt", "([BI)C"⟩
abbrev b_j_StringLatin1_charAt : ByteArray := prog_22_method_2_code
abbrev cd_j_StringLatin1_charAt : Cond := .code y_j_StringLatin1_charAt b_j_StringLatin1_charAt 2 (some .char)
abbrev y_j_StringLatin1_indexOfChar : MethodName := ⟨R_java_lang_StringLatin1, "indexOfChar", "([BIII)I"⟩
abbrev b_j_StringLatin1_indexOfChar : ByteArray := prog_22_method_23_code
abbrev cd_j_StringLatin1_indexOfChar : Cond := .code y_j_StringLatin1_indexOfChar b_j_StringLatin1_indexOfChar 6 (some .int)
abbrev y_j_StringUTF16_charAt : MethodName := ⟨R_java_lang_StringUTF16, "charAt", "([BI)C"⟩
abbrev b_j_StringUTF16_charAt : ByteArray := prog_23_method_83_code
abbrev cd_j_StringUTF16_charAt : Cond := .code y_j_StringUTF16_charAt b_j_StringUTF16_charAt 2 (some .char)
abbrev y_j_StringUTF16_checkBoundsBeginEnd : MethodName := ⟨R_java_lang_StringUTF16, "checkBoundsBeginEnd", "(II[B)V"⟩
abbrev b_j_StringUTF16_checkBoundsBeginEnd : ByteArray := prog_23_method_93_code
abbrev cd_j_StringUTF16_checkBoundsBeginEnd : Cond := .code y_j_StringUTF16_checkBoundsBeginEnd b_j_StringUTF16_checkBoundsBeginEnd 3 none
abbrev y_j_StringUTF16_checkIndex : MethodName := ⟨R_java_lang_StringUTF16, "checkIndex", "(I[B)V"⟩
abbrev b_j_StringUTF16_checkIndex : ByteArray := prog_23_method_91_code
abbrev cd_j_StringUTF16_checkIndex : Cond := .code y_j_StringUTF16_checkIndex b_j_StringUTF16_checkIndex 2 none
abbrev y_j_StringUTF16_getChar : MethodName := ⟨R_java_lang_StringUTF16, "getChar", "([BI)C"⟩
abbrev b_j_StringUTF16_getChar : ByteArray := prog_23_method_5_code
abbrev cd_j_StringUTF16_getChar : Cond := .code y_j_StringUTF16_getChar b_j_StringUTF16_getChar 2 (some .char)
abbrev y_j_StringUTF16_indexOfChar : MethodName := ⟨R_java_lang_StringUTF16, "indexOfChar", "([BIII)I"⟩
abbrev b_j_StringUTF16_indexOfChar : ByteArray := prog_23_method_47_code
abbrev cd_j_StringUTF16_indexOfChar : Cond := .code y_j_StringUTF16_indexOfChar b_j_StringUTF16_indexOfChar 4 (some .int)
abbrev y_j_StringUTF16_indexOfCharUnsafe : MethodName := ⟨R_java_lang_StringUTF16, "indexOfCharUnsafe", "([BIII)I"⟩
abbrev b_j_StringUTF16_indexOfCharUnsafe : ByteArray := prog_23_method_48_code
abbrev cd_j_StringUTF16_indexOfCharUnsafe : Cond := .code y_j_StringUTF16_indexOfCharUnsafe b_j_StringUTF16_indexOfCharUnsafe 5 (some .int)
abbrev y_j_StringUTF16_indexOfSupplementary : MethodName := ⟨R_java_lang_StringUTF16, "indexOfSupplementary", "([BIII)I"⟩
abbrev b_j_StringUTF16_indexOfSupplementary : ByteArray := prog_23_method_49_code
abbrev cd_j_StringUTF16_indexOfSupplementary : Cond := .code y_j_StringUTF16_indexOfSupplementary b_j_StringUTF16_indexOfSupplementary 7 (some .int)
abbrev y_j_StringUTF16_length : MethodName := ⟨R_java_lang_StringUTF16, "length", "([B)I"⟩
abbrev b_j_StringUTF16_length : ByteArray := prog_23_method_6_code
abbrev cd_j_StringUTF16_length : Cond := .code y_j_StringUTF16_length b_j_StringUTF16_length 1 (some .int)
abbrev y_j_Throwable_init : MethodName := ⟨R_java_lang_Throwable, "<init>", "(Ljava/lang/String;)V"⟩
abbrev b_j_Throwable_init : ByteArray := prog_25_method_2_code
abbrev cd_j_Throwable_init : Cond := .code y_j_Throwable_init b_j_Throwable_init 2 none
abbrev y_j_Throwable_fillInStackTrace : MethodName := ⟨R_java_lang_Throwable, "fillInStackTrace", "()Ljava/lang/Throwable;"⟩
abbrev b_j_Throwable_fillInStackTrace : ByteArray := prog_25_method_18_code
abbrev y_j_UnsupportedOperationException_init : MethodName := ⟨R_java_lang_UnsupportedOperationException, "<init>", "(Ljava/lang/String;)V"⟩
abbrev b_j_UnsupportedOperationException_init : ByteArray := prog_26_method_2_code
abbrev cd_j_UnsupportedOperationException_init : Cond := .code y_j_UnsupportedOperationException_init b_j_UnsupportedOperationException_init 2 none
abbrev y_j_Arrays_fill : MethodName := ⟨R_java_util_Arrays, "fill", "([II)V"⟩
abbrev b_j_Arrays_fill : ByteArray := prog_27_method_103_code
abbrev cd_j_Arrays_fill : Cond := .code y_j_Arrays_fill b_j_Arrays_fill 4 none
/-- the words that any method here may use -/
def WS : List Cond := lw_tbl.filter goodWord
theorem WS_good (w : Cond) (h : w ∈ WS) : (w.onTables && w.keeps) = true ∨ ∃ ty, w = .arrayClass ty := good_of_word (List.mem_filter.mp h).2
theorem WS_tbl (i : Nat) {w : Cond} (h : tables_1[i]? = some w) (hg : goodWord w = true) : w ∈ WS := List.mem_filter.mpr ⟨List.mem_append_right _ (List.mem_of_getElem? h), hg⟩
theorem WS_sel (i : Nat) {w : Cond} (h : (k2_sels lw_privs)[i]? = some w) (hg : goodWord w = true) : w ∈ WS := List.mem_filter.mpr ⟨List.mem_append_left _ (List.mem_of_getElem? h), hg⟩
theorem uw_Checks_0 : u_lay R_Checks F_Checks 0 ∈ WS := WS_tbl 116 (by decide +kernel) rfl
theorem uw_Checks_1 : u_lay R_Checks F_Checks 1 ∈ WS := WS_tbl 118 (by decide +kernel) rfl
theorem uw_Checks_2 : u_lay R_Checks F_Checks 2 ∈ WS := WS_tbl 120 (by decide +kernel) rfl
theorem uw_Checks_3 : u_lay R_Checks F_Checks 3 ∈ WS := WS_tbl 122 (by decide +kernel) rfl
theorem uw_Checks_4 : u_lay R_Checks F_Checks 4 ∈ WS := WS_tbl 124 (by decide +kernel) rfl
theorem uw_Checks_5 : u_lay R_Checks F_Checks 5 ∈ WS := WS_tbl 126 (by decide +kernel) rfl
theorem uw_Checks_6 : u_lay R_Checks F_Checks 6 ∈ WS := WS_tbl 128 (by decide +kernel) rfl
theorem uw_Checks_7 : u_lay R_Checks F_Checks 7 ∈ WS := WS_tbl 130 (by decide +kernel) rfl
theorem u_Checks_in : ∀ w ∈ u_ws R_Checks F_Checks 8, w ∈ WS := by
  intro w hw
  obtain ⟨k, hk, rfl⟩ := List.mem_map.mp hw
  have hk : k < 8 := List.mem_range.mp hk
  rcases (show k = 0 ∨ k = 1 ∨ k = 2 ∨ k = 3 ∨ k = 4 ∨ k = 5 ∨ k = 6 ∨ k = 7 by omega) with rfl | rfl | rfl | rfl | rfl | rfl | rfl | rfl
  · exact uw_Checks_0
  · exact uw_Checks_1
  · exact uw_Checks_2
  · exact uw_Checks_3
  · exact uw_Checks_4
  · exact uw_Checks_5
  · exact uw_Checks_6
  · exact uw_Checks_7
theorem uw_Field_0 : u_lay R_Field F_Field 0 ∈ WS := WS_tbl 103 (by decide +kernel) rfl
theorem uw_Field_1 : u_lay R_Field F_Field 1 ∈ WS := WS_tbl 105 (by decide +kernel) rfl
theorem u_Field_in : ∀ w ∈ u_ws R_Field F_Field 2, w ∈ WS := by
  intro w hw
  obtain ⟨k, hk, rfl⟩ := List.mem_map.mp hw
  have hk : k < 2 := List.mem_range.mp hk
  rcases (show k = 0 ∨ k = 1 by omega) with rfl | rfl
  · exact uw_Field_0
  · exact uw_Field_1
theorem uw_Grid_0 : u_lay R_Grid F_Grid 0 ∈ WS := WS_tbl 43 (by decide +kernel) rfl
theorem u_Grid_in : ∀ w ∈ u_ws R_Grid F_Grid 1, w ∈ WS := by
  intro w hw
  obtain ⟨k, hk, rfl⟩ := List.mem_map.mp hw
  have hk : k < 1 := List.mem_range.mp hk
  rcases (show k = 0 by omega) with rfl
  · exact uw_Grid_0
theorem uw_Layout_0 : u_lay R_Layout F_Layout 0 ∈ WS := WS_tbl 82 (by decide +kernel) rfl
theorem uw_Layout_1 : u_lay R_Layout F_Layout 1 ∈ WS := WS_tbl 84 (by decide +kernel) rfl
theorem uw_Layout_2 : u_lay R_Layout F_Layout 2 ∈ WS := WS_tbl 86 (by decide +kernel) rfl
theorem u_Layout_in : ∀ w ∈ u_ws R_Layout F_Layout 3, w ∈ WS := by
  intro w hw
  obtain ⟨k, hk, rfl⟩ := List.mem_map.mp hw
  have hk : k < 3 := List.mem_range.mp hk
  rcases (show k = 0 ∨ k = 1 ∨ k = 2 by omega) with rfl | rfl | rfl
  · exact uw_Layout_0
  · exact uw_Layout_1
  · exact uw_Layout_2
theorem uw_Reading_0 : u_lay R_Reading F_Reading 0 ∈ WS := WS_tbl 175 (by decide +kernel) rfl
theorem uw_Reading_1 : u_lay R_Reading F_Reading 1 ∈ WS := WS_tbl 177 (by decide +kernel) rfl
theorem uw_Reading_2 : u_lay R_Reading F_Reading 2 ∈ WS := WS_tbl 179 (by decide +kernel) rfl
theorem uw_Reading_3 : u_lay R_Reading F_Reading 3 ∈ WS := WS_tbl 181 (by decide +kernel) rfl
theorem u_Reading_in : ∀ w ∈ u_ws R_Reading F_Reading 4, w ∈ WS := by
  intro w hw
  obtain ⟨k, hk, rfl⟩ := List.mem_map.mp hw
  have hk : k < 4 := List.mem_range.mp hk
  rcases (show k = 0 ∨ k = 1 ∨ k = 2 ∨ k = 3 by omega) with rfl | rfl | rfl | rfl
  · exact uw_Reading_0
  · exact uw_Reading_1
  · exact uw_Reading_2
  · exact uw_Reading_3
theorem uw_TextReader_0 : u_lay R_TextReader F_TextReader 0 ∈ WS := WS_tbl 153 (by decide +kernel) rfl
theorem uw_TextReader_1 : u_lay R_TextReader F_TextReader 1 ∈ WS := WS_tbl 155 (by decide +kernel) rfl
theorem uw_TextReader_2 : u_lay R_TextReader F_TextReader 2 ∈ WS := WS_tbl 157 (by decide +kernel) rfl
theorem uw_TextReader_3 : u_lay R_TextReader F_TextReader 3 ∈ WS := WS_tbl 159 (by decide +kernel) rfl
theorem u_TextReader_in : ∀ w ∈ u_ws R_TextReader F_TextReader 4, w ∈ WS := by
  intro w hw
  obtain ⟨k, hk, rfl⟩ := List.mem_map.mp hw
  have hk : k < 4 := List.mem_range.mp hk
  rcases (show k = 0 ∨ k = 1 ∨ k = 2 ∨ k = 3 by omega) with rfl | rfl | rfl | rfl
  · exact uw_TextReader_0
  · exact uw_TextReader_1
  · exact uw_TextReader_2
  · exact uw_TextReader_3
theorem uw_TextWriter_0 : u_lay R_TextWriter F_TextWriter 0 ∈ WS := WS_tbl 140 (by decide +kernel) rfl
theorem u_TextWriter_in : ∀ w ∈ u_ws R_TextWriter F_TextWriter 1, w ∈ WS := by
  intro w hw
  obtain ⟨k, hk, rfl⟩ := List.mem_map.mp hw
  have hk : k < 1 := List.mem_range.mp hk
  rcases (show k = 0 by omega) with rfl
  · exact uw_TextWriter_0
theorem uw_SquareCodes_0 : u_lay R_SquareCodes F_SquareCodes 0 ∈ WS := WS_tbl 193 (by decide +kernel) rfl
theorem uw_SquareCodes_1 : u_lay R_SquareCodes F_SquareCodes 1 ∈ WS := WS_tbl 195 (by decide +kernel) rfl
theorem uw_SquareCodes_2 : u_lay R_SquareCodes F_SquareCodes 2 ∈ WS := WS_tbl 197 (by decide +kernel) rfl
theorem uw_SquareCodes_3 : u_lay R_SquareCodes F_SquareCodes 3 ∈ WS := WS_tbl 199 (by decide +kernel) rfl
theorem uw_SquareCodes_4 : u_lay R_SquareCodes F_SquareCodes 4 ∈ WS := WS_tbl 201 (by decide +kernel) rfl
theorem uw_SquareCodes_5 : u_lay R_SquareCodes F_SquareCodes 5 ∈ WS := WS_tbl 203 (by decide +kernel) rfl
theorem uw_SquareCodes_6 : u_lay R_SquareCodes F_SquareCodes 6 ∈ WS := WS_tbl 205 (by decide +kernel) rfl
theorem uw_SquareCodes_7 : u_lay R_SquareCodes F_SquareCodes 7 ∈ WS := WS_tbl 207 (by decide +kernel) rfl
theorem uw_SquareCodes_8 : u_lay R_SquareCodes F_SquareCodes 8 ∈ WS := WS_tbl 209 (by decide +kernel) rfl
theorem u_SquareCodes_in : ∀ w ∈ u_ws R_SquareCodes F_SquareCodes 9, w ∈ WS := by
  intro w hw
  obtain ⟨k, hk, rfl⟩ := List.mem_map.mp hw
  have hk : k < 9 := List.mem_range.mp hk
  rcases (show k = 0 ∨ k = 1 ∨ k = 2 ∨ k = 3 ∨ k = 4 ∨ k = 5 ∨ k = 6 ∨ k = 7 ∨ k = 8 by omega) with rfl | rfl | rfl | rfl | rfl | rfl | rfl | rfl | rfl
  · exact uw_SquareCodes_0
  · exact uw_SquareCodes_1
  · exact uw_SquareCodes_2
  · exact uw_SquareCodes_3
  · exact uw_SquareCodes_4
  · exact uw_SquareCodes_5
  · exact uw_SquareCodes_6
  · exact uw_SquareCodes_7
  · exact uw_SquareCodes_8
theorem uw_Model_0 : u_lay R_Model F_Model 0 ∈ WS := WS_tbl 800 (by decide +kernel) rfl
theorem uw_Model_1 : u_lay R_Model F_Model 1 ∈ WS := WS_tbl 802 (by decide +kernel) rfl
theorem uw_Model_2 : u_lay R_Model F_Model 2 ∈ WS := WS_tbl 804 (by decide +kernel) rfl
theorem uw_Model_3 : u_lay R_Model F_Model 3 ∈ WS := WS_tbl 806 (by decide +kernel) rfl
theorem uw_Model_4 : u_lay R_Model F_Model 4 ∈ WS := WS_tbl 808 (by decide +kernel) rfl
theorem uw_Model_5 : u_lay R_Model F_Model 5 ∈ WS := WS_tbl 810 (by decide +kernel) rfl
theorem uw_Model_6 : u_lay R_Model F_Model 6 ∈ WS := WS_tbl 812 (by decide +kernel) rfl
theorem uw_Model_7 : u_lay R_Model F_Model 7 ∈ WS := WS_tbl 814 (by decide +kernel) rfl
theorem uw_Model_8 : u_lay R_Model F_Model 8 ∈ WS := WS_tbl 816 (by decide +kernel) rfl
theorem uw_Model_9 : u_lay R_Model F_Model 9 ∈ WS := WS_tbl 818 (by decide +kernel) rfl
theorem uw_Model_10 : u_lay R_Model F_Model 10 ∈ WS := WS_tbl 820 (by decide +kernel) rfl
theorem uw_Model_11 : u_lay R_Model F_Model 11 ∈ WS := WS_tbl 822 (by decide +kernel) rfl
theorem uw_Model_12 : u_lay R_Model F_Model 12 ∈ WS := WS_tbl 824 (by decide +kernel) rfl
theorem uw_Model_13 : u_lay R_Model F_Model 13 ∈ WS := WS_tbl 826 (by decide +kernel) rfl
theorem uw_Model_14 : u_lay R_Model F_Model 14 ∈ WS := WS_tbl 828 (by decide +kernel) rfl
theorem uw_Model_15 : u_lay R_Model F_Model 15 ∈ WS := WS_tbl 830 (by decide +kernel) rfl
theorem uw_Model_16 : u_lay R_Model F_Model 16 ∈ WS := WS_tbl 832 (by decide +kernel) rfl
theorem uw_Model_17 : u_lay R_Model F_Model 17 ∈ WS := WS_tbl 834 (by decide +kernel) rfl
theorem uw_Model_18 : u_lay R_Model F_Model 18 ∈ WS := WS_tbl 836 (by decide +kernel) rfl
theorem uw_Model_19 : u_lay R_Model F_Model 19 ∈ WS := WS_tbl 838 (by decide +kernel) rfl
theorem uw_Model_20 : u_lay R_Model F_Model 20 ∈ WS := WS_tbl 840 (by decide +kernel) rfl
theorem uw_Model_21 : u_lay R_Model F_Model 21 ∈ WS := WS_tbl 842 (by decide +kernel) rfl
theorem uw_Model_22 : u_lay R_Model F_Model 22 ∈ WS := WS_tbl 844 (by decide +kernel) rfl
theorem uw_Model_23 : u_lay R_Model F_Model 23 ∈ WS := WS_tbl 846 (by decide +kernel) rfl
theorem u_Model_in : ∀ w ∈ u_ws R_Model F_Model 24, w ∈ WS := by
  intro w hw
  obtain ⟨k, hk, rfl⟩ := List.mem_map.mp hw
  have hk : k < 24 := List.mem_range.mp hk
  rcases (show k = 0 ∨ k = 1 ∨ k = 2 ∨ k = 3 ∨ k = 4 ∨ k = 5 ∨ k = 6 ∨ k = 7 ∨ k = 8 ∨ k = 9 ∨ k = 10 ∨ k = 11 ∨ k = 12 ∨ k = 13 ∨ k = 14 ∨ k = 15 ∨ k = 16 ∨ k = 17 ∨ k = 18 ∨ k = 19 ∨ k = 20 ∨ k = 21 ∨ k = 22 ∨ k = 23 by omega) with rfl | rfl | rfl | rfl | rfl | rfl | rfl | rfl | rfl | rfl | rfl | rfl | rfl | rfl | rfl | rfl | rfl | rfl | rfl | rfl | rfl | rfl | rfl | rfl
  · exact uw_Model_0
  · exact uw_Model_1
  · exact uw_Model_2
  · exact uw_Model_3
  · exact uw_Model_4
  · exact uw_Model_5
  · exact uw_Model_6
  · exact uw_Model_7
  · exact uw_Model_8
  · exact uw_Model_9
  · exact uw_Model_10
  · exact uw_Model_11
  · exact uw_Model_12
  · exact uw_Model_13
  · exact uw_Model_14
  · exact uw_Model_15
  · exact uw_Model_16
  · exact uw_Model_17
  · exact uw_Model_18
  · exact uw_Model_19
  · exact uw_Model_20
  · exact uw_Model_21
  · exact uw_Model_22
  · exact uw_Model_23
