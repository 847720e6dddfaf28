/-! Names of the classes, fields and methods; the words of the tables that hold in every later state, each by its place. -/
abbrev R_W : String := "GrowthLimits$Work"
abbrev R_G : String := "GrowthLimits"
abbrev R_M : String := "GrowthLimitsModel"
abbrev R_L : String := "GrowthLimitsLaw"
def F_W : u_T := fun k => match k with
  | 0 => ("GrowthLimits$Work", "rows", "[I", true)
  | 1 => ("GrowthLimits$Work", "taken", "[I", true)
  | 2 => ("GrowthLimits$Work", "size", "I", false)
  | _ => ("GrowthLimits$Work", "tooGreat", "Z", false)
def t_W : Nat → FieldType := fun k => match k with
  | 0 => .array .int
  | 1 => .array .int
  | 2 => .int
  | _ => .boolean
theorem n_W : ∀ a, a < 4 → ∀ b, b < 4 → a ≠ b → (F_W a).2.1 ≠ (F_W b).2.1 := by decide +kernel
theorem t_W_ok : ∀ k, k < 4 → parseFieldDescriptor (F_W k).2.2.1 = some (t_W k) := by decide +kernel
def F_G : u_T := fun k => match k with
  | 0 => ("GrowthLimits", "kept", "[I", true)
  | 1 => ("GrowthLimits", "sizes", "[I", true)
  | 2 => ("GrowthLimits", "work", "LGrowthLimits$Work;", true)
  | _ => ("GrowthLimits", "made", "I", false)
def t_G : Nat → FieldType := fun k => match k with
  | 0 => .array .int
  | 1 => .array .int
  | 2 => .object "GrowthLimits$Work"
  | _ => .int
theorem n_G : ∀ a, a < 4 → ∀ b, b < 4 → a ≠ b → (F_G a).2.1 ≠ (F_G b).2.1 := by decide +kernel
theorem t_G_ok : ∀ k, k < 4 → parseFieldDescriptor (F_G k).2.2.1 = some (t_G k) := by decide +kernel
def F_M : u_T := fun k => match k with
  | 0 => ("GrowthLimitsModel", "code", "I", false)
  | 1 => ("GrowthLimitsModel", "functions", "I", false)
  | 2 => ("GrowthLimitsModel", "size", "[I", true)
  | 3 => ("GrowthLimitsModel", "rows", "[I", true)
  | 4 => ("GrowthLimitsModel", "made", "I", false)
  | 5 => ("GrowthLimitsModel", "work", "[I", true)
  | 6 => ("GrowthLimitsModel", "great", "Z", false)
  | 7 => ("GrowthLimitsModel", "x", "[I", true)
  | 8 => ("GrowthLimitsModel", "power", "[I", true)
  | 9 => ("GrowthLimitsModel", "up", "J", false)
  | _ => ("GrowthLimitsModel", "down", "J", false)
def t_M : Nat → FieldType := fun k => match k with
  | 0 => .int
  | 1 => .int
  | 2 => .array .int
  | 3 => .array .int
  | 4 => .int
  | 5 => .array .int
  | 6 => .boolean
  | 7 => .array .int
  | 8 => .array .int
  | 9 => .long
  | _ => .long
theorem n_M : ∀ a, a < 11 → ∀ b, b < 11 → a ≠ b → (F_M a).2.1 ≠ (F_M b).2.1 := by decide +kernel
theorem t_M_ok : ∀ k, k < 11 → parseFieldDescriptor (F_M k).2.2.1 = some (t_M k) := by decide +kernel
abbrev b_G_init : ByteArray := prog_1_method_1_code
def y_G_init : MethodName := ⟨R_G, "<init>", "()V"⟩
abbrev b_W_init : ByteArray := prog_2_method_1_code
def y_W_init : MethodName := ⟨R_W, "<init>", "()V"⟩
abbrev b_G_count : ByteArray := prog_1_method_19_code
def y_G_count : MethodName := ⟨R_G, "count", "()I"⟩
abbrev b_L_number : ByteArray := method_3_code
def y_L_number : MethodName := ⟨R_L, "number", "(LGrowthLimits;II[J)I"⟩
abbrev b_G_number : ByteArray := prog_1_method_2_code
def y_G_number : MethodName := ⟨R_G, "number", "(II)I"⟩
abbrev b_G_requireRoom : ByteArray := prog_1_method_21_code
def y_G_requireRoom : MethodName := ⟨R_G, "requireRoom", "()V"⟩
abbrev b_W_begin : ByteArray := prog_2_method_2_code
def y_W_begin : MethodName := ⟨R_W, "begin", "()V"⟩
abbrev b_W_takeOne : ByteArray := prog_2_method_3_code
def y_W_takeOne : MethodName := ⟨R_W, "takeOne", "()V"⟩
abbrev b_W_multiply : ByteArray := prog_2_method_5_code
def y_W_multiply : MethodName := ⟨R_W, "multiply", "(JJ)V"⟩
abbrev b_W_setNumber : ByteArray := prog_2_method_14_code
def y_W_setNumber : MethodName := ⟨R_W, "setNumber", "([IIJJ)V"⟩
abbrev b_G_divisorOf : ByteArray := prog_1_method_36_code
def y_G_divisorOf : MethodName := ⟨R_G, "divisorOf", "(JJ)J"⟩
abbrev b_W_putTaken : ByteArray := prog_2_method_9_code
def y_W_putTaken : MethodName := ⟨R_W, "putTaken", "()V"⟩
abbrev b_W_placeOfTaken : ByteArray := prog_2_method_10_code
def y_W_placeOfTaken : MethodName := ⟨R_W, "placeOfTaken", "()I"⟩
abbrev b_G_rankOfTerms : ByteArray := prog_1_method_35_code
def y_G_rankOfTerms : MethodName := ⟨R_G, "rankOfTerms", "([II[II)I"⟩
abbrev b_W_addTaken : ByteArray := prog_2_method_11_code
def y_W_addTaken : MethodName := ⟨R_W, "addTaken", "(I)V"⟩
abbrev b_W_removeRow : ByteArray := prog_2_method_13_code
def y_W_removeRow : MethodName := ⟨R_W, "removeRow", "(I)V"⟩
abbrev b_W_insertTaken : ByteArray := prog_2_method_12_code
def y_W_insertTaken : MethodName := ⟨R_W, "insertTaken", "(I)V"⟩
abbrev b_G_keep : ByteArray := prog_1_method_23_code
def y_G_keep : MethodName := ⟨R_G, "keep", "()I"⟩
abbrev b_G_rowOf : ByteArray := prog_1_method_24_code
def y_G_rowOf : MethodName := ⟨R_G, "rowOf", "(II)I"⟩
abbrev b_L_letter : ByteArray := method_4_code
def y_L_letter : MethodName := ⟨R_L, "letter", "(LGrowthLimits;I[J)I"⟩
abbrev b_G_letter : ByteArray := prog_1_method_3_code
def y_G_letter : MethodName := ⟨R_G, "letter", "(I)I"⟩
abbrev b_G_putMultiple : ByteArray := prog_1_method_26_code
def y_G_putMultiple : MethodName := ⟨R_G, "putMultiple", "(III)V"⟩
abbrev b_W_raise : ByteArray := prog_2_method_8_code
def y_W_raise : MethodName := ⟨R_W, "raise", "(II)V"⟩
abbrev b_L_add : ByteArray := method_5_code
def y_L_add : MethodName := ⟨R_L, "add", "(LGrowthLimits;II[J)I"⟩
abbrev b_G_add : ByteArray := prog_1_method_4_code
def y_G_add : MethodName := ⟨R_G, "add", "(II)I"⟩
abbrev b_G_requireFunction : ByteArray := prog_1_method_20_code
def y_G_requireFunction : MethodName := ⟨R_G, "requireFunction", "(I)V"⟩
abbrev b_G_putAll : ByteArray := prog_1_method_25_code
def y_G_putAll : MethodName := ⟨R_G, "putAll", "(I)V"⟩
abbrev b_W_take : ByteArray := prog_2_method_4_code
def y_W_take : MethodName := ⟨R_W, "take", "([II)V"⟩
abbrev b_L_times : ByteArray := method_6_code
def y_L_times : MethodName := ⟨R_L, "times", "(LGrowthLimits;II[J)I"⟩
abbrev b_G_times : ByteArray := prog_1_method_5_code
def y_G_times : MethodName := ⟨R_G, "times", "(II)I"⟩
abbrev b_W_multiplyByTerm : ByteArray := prog_2_method_6_code
def y_W_multiplyByTerm : MethodName := ⟨R_W, "multiplyByTerm", "([II)V"⟩
abbrev b_L_over : ByteArray := method_7_code
def y_L_over : MethodName := ⟨R_L, "over", "(LGrowthLimits;II[J)I"⟩
abbrev b_G_over : ByteArray := prog_1_method_6_code
def y_G_over : MethodName := ⟨R_G, "over", "(II)I"⟩
abbrev b_W_divideByTerm : ByteArray := prog_2_method_7_code
def y_W_divideByTerm : MethodName := ⟨R_W, "divideByTerm", "([II)V"⟩
abbrev b_L_derive : ByteArray := method_8_code
def y_L_derive : MethodName := ⟨R_L, "derive", "(LGrowthLimits;I[J)I"⟩
abbrev b_G_derive : ByteArray := prog_1_method_7_code
def y_G_derive : MethodName := ⟨R_G, "derive", "(I)I"⟩
abbrev b_G_putSlopePart : ByteArray := prog_1_method_27_code
def y_G_putSlopePart : MethodName := ⟨R_G, "putSlopePart", "(IIIII)V"⟩
abbrev b_L_logarithm : ByteArray := method_9_code
def y_L_logarithm : MethodName := ⟨R_L, "logarithm", "(LGrowthLimits;I[J)I"⟩
abbrev b_G_logarithm : ByteArray := prog_1_method_8_code
def y_G_logarithm : MethodName := ⟨R_G, "logarithm", "(I)I"⟩
abbrev b_G_hasLogarithm : ByteArray := prog_1_method_28_code
def y_G_hasLogarithm : MethodName := ⟨R_G, "hasLogarithm", "(I)Z"⟩
abbrev b_L_exponential : ByteArray := method_10_code
def y_L_exponential : MethodName := ⟨R_L, "exponential", "(LGrowthLimits;I[J)I"⟩
abbrev b_G_exponential : ByteArray := prog_1_method_9_code
def y_G_exponential : MethodName := ⟨R_G, "exponential", "(I)I"⟩
abbrev b_G_cellOfExponential : ByteArray := prog_1_method_29_code
def y_G_cellOfExponential : MethodName := ⟨R_G, "cellOfExponential", "(I)I"⟩
abbrev b_G_holds : ByteArray := prog_1_method_30_code
def y_G_holds : MethodName := ⟨R_G, "holds", "(IIII)Z"⟩
abbrev b_L_terms : ByteArray := method_11_code
def y_L_terms : MethodName := ⟨R_L, "terms", "(LGrowthLimits;I[J)I"⟩
abbrev b_G_terms : ByteArray := prog_1_method_10_code
def y_G_terms : MethodName := ⟨R_G, "terms", "(I)I"⟩
abbrev b_L_term : ByteArray := method_12_code
def y_L_term : MethodName := ⟨R_L, "term", "(LGrowthLimits;III[J)I"⟩
abbrev b_G_term : ByteArray := prog_1_method_11_code
def y_G_term : MethodName := ⟨R_G, "term", "(III)I"⟩
abbrev b_L_limit : ByteArray := method_13_code
def y_L_limit : MethodName := ⟨R_L, "limit", "(LGrowthLimits;I[J)I"⟩
abbrev b_G_limit : ByteArray := prog_1_method_12_code
def y_G_limit : MethodName := ⟨R_G, "limit", "(I)I"⟩
abbrev b_G_endOf : ByteArray := prog_1_method_31_code
def y_G_endOf : MethodName := ⟨R_G, "endOf", "(I)I"⟩
abbrev b_G_trendOf : ByteArray := prog_1_method_32_code
def y_G_trendOf : MethodName := ⟨R_G, "trendOf", "(I)I"⟩
abbrev b_G_signOf : ByteArray := prog_1_method_33_code
def y_G_signOf : MethodName := ⟨R_G, "signOf", "(I)I"⟩
abbrev b_L_value : ByteArray := method_14_code
def y_L_value : MethodName := ⟨R_L, "value", "(LGrowthLimits;II[J)I"⟩
abbrev b_G_value : ByteArray := prog_1_method_13_code
def y_G_value : MethodName := ⟨R_G, "value", "(II)I"⟩
abbrev b_G_requirePart : ByteArray := prog_1_method_22_code
def y_G_requirePart : MethodName := ⟨R_G, "requirePart", "(I)V"⟩
abbrev b_L_compare : ByteArray := method_15_code
def y_L_compare : MethodName := ⟨R_L, "compare", "(LGrowthLimits;II[J)I"⟩
abbrev b_G_compare : ByteArray := prog_1_method_14_code
def y_G_compare : MethodName := ⟨R_G, "compare", "(II)I"⟩
abbrev b_G_rankOf : ByteArray := prog_1_method_34_code
def y_G_rankOf : MethodName := ⟨R_G, "rankOf", "(II)I"⟩
abbrev b_L_ratio : ByteArray := method_16_code
def y_L_ratio : MethodName := ⟨R_L, "ratio", "(LGrowthLimits;III[J)I"⟩
abbrev b_G_ratio : ByteArray := prog_1_method_15_code
def y_G_ratio : MethodName := ⟨R_G, "ratio", "(III)J"⟩
abbrev b_L_sign : ByteArray := method_17_code
def y_L_sign : MethodName := ⟨R_L, "sign", "(LGrowthLimits;I[J)I"⟩
abbrev b_G_sign : ByteArray := prog_1_method_16_code
def y_G_sign : MethodName := ⟨R_G, "sign", "(I)I"⟩
abbrev b_L_same : ByteArray := method_18_code
def y_L_same : MethodName := ⟨R_L, "same", "(LGrowthLimits;II[J)I"⟩
abbrev b_G_same : ByteArray := prog_1_method_17_code
def y_G_same : MethodName := ⟨R_G, "same", "(II)Z"⟩
abbrev b_L_fastest : ByteArray := method_19_code
def y_L_fastest : MethodName := ⟨R_L, "fastest", "(LGrowthLimits;I[J)I"⟩
abbrev b_G_fastest : ByteArray := prog_1_method_18_code
def y_G_fastest : MethodName := ⟨R_G, "fastest", "(I)I"⟩
abbrev b_M_init : ByteArray := prog_4_method_1_code
def y_M_init : MethodName := ⟨R_M, "<init>", "()V"⟩
abbrev b_M_thrown : ByteArray := prog_4_method_2_code
def y_M_thrown : MethodName := ⟨R_M, "thrown", "()I"⟩
abbrev b_M_number : ByteArray := prog_4_method_18_code
def y_M_number : MethodName := ⟨R_M, "number", "(II)I"⟩
abbrev b_M_raise : ByteArray := prog_4_method_3_code
def y_M_raise : MethodName := ⟨R_M, "raise", "(I)I"⟩
abbrev b_M_start : ByteArray := prog_4_method_11_code
def y_M_start : MethodName := ⟨R_M, "start", "()V"⟩
abbrev b_M_lowest : ByteArray := prog_4_method_7_code
def y_M_lowest : MethodName := ⟨R_M, "lowest", "(JJ)V"⟩
abbrev b_M_divisor : ByteArray := prog_4_method_6_code
def y_M_divisor : MethodName := ⟨R_M, "divisor", "(JJ)J"⟩
abbrev b_M_size : ByteArray := prog_4_method_5_code
def y_M_size : MethodName := ⟨R_M, "size", "(J)J"⟩
abbrev b_M_bound : ByteArray := prog_4_method_8_code
def y_M_bound : MethodName := ⟨R_M, "bound", "()V"⟩
abbrev b_M_put : ByteArray := prog_4_method_13_code
def y_M_put : MethodName := ⟨R_M, "put", "()V"⟩
abbrev b_M_in : ByteArray := prog_4_method_4_code
def y_M_in : MethodName := ⟨R_M, "in", "(JJJ)Z"⟩
abbrev b_M_order : ByteArray := prog_4_method_12_code
def y_M_order : MethodName := ⟨R_M, "order", "(I)I"⟩
abbrev b_M_keep : ByteArray := prog_4_method_16_code
def y_M_keep : MethodName := ⟨R_M, "keep", "()I"⟩
abbrev b_M_letter : ByteArray := prog_4_method_19_code
def y_M_letter : MethodName := ⟨R_M, "letter", "(I)I"⟩
abbrev b_M_add : ByteArray := prog_4_method_20_code
def y_M_add : MethodName := ⟨R_M, "add", "(II)I"⟩
abbrev b_M_may : ByteArray := prog_4_method_17_code
def y_M_may : MethodName := ⟨R_M, "may", "(II)Z"⟩
abbrev b_M_isFunction : ByteArray := prog_4_method_10_code
def y_M_isFunction : MethodName := ⟨R_M, "isFunction", "(I)Z"⟩
abbrev b_M_load : ByteArray := prog_4_method_14_code
def y_M_load : MethodName := ⟨R_M, "load", "(II)V"⟩
abbrev b_M_at : ByteArray := prog_4_method_9_code
def y_M_at : MethodName := ⟨R_M, "at", "(III)I"⟩
abbrev b_M_times : ByteArray := prog_4_method_22_code
def y_M_times : MethodName := ⟨R_M, "times", "(II)I"⟩
abbrev b_M_multiply : ByteArray := prog_4_method_21_code
def y_M_multiply : MethodName := ⟨R_M, "multiply", "(IIII)V"⟩
abbrev b_M_scale : ByteArray := prog_4_method_15_code
def y_M_scale : MethodName := ⟨R_M, "scale", "(JJ)V"⟩
abbrev b_M_over : ByteArray := prog_4_method_23_code
def y_M_over : MethodName := ⟨R_M, "over", "(II)I"⟩
abbrev b_M_derive : ByteArray := prog_4_method_24_code
def y_M_derive : MethodName := ⟨R_M, "derive", "(I)I"⟩
abbrev b_M_logarithm : ByteArray := prog_4_method_25_code
def y_M_logarithm : MethodName := ⟨R_M, "logarithm", "(I)I"⟩
abbrev b_M_exponential : ByteArray := prog_4_method_26_code
def y_M_exponential : MethodName := ⟨R_M, "exponential", "(I)I"⟩
abbrev b_M_terms : ByteArray := prog_4_method_27_code
def y_M_terms : MethodName := ⟨R_M, "terms", "(I)I"⟩
abbrev b_M_term : ByteArray := prog_4_method_28_code
def y_M_term : MethodName := ⟨R_M, "term", "(III)I"⟩
abbrev b_M_sign : ByteArray := prog_4_method_31_code
def y_M_sign : MethodName := ⟨R_M, "sign", "(I)I"⟩
abbrev b_M_signOf : ByteArray := prog_4_method_30_code
def y_M_signOf : MethodName := ⟨R_M, "signOf", "(I)I"⟩
abbrev b_M_limit : ByteArray := prog_4_method_32_code
def y_M_limit : MethodName := ⟨R_M, "limit", "(I)I"⟩
abbrev b_M_high : ByteArray := prog_4_method_29_code
def y_M_high : MethodName := ⟨R_M, "high", "(I)I"⟩
abbrev b_M_value : ByteArray := prog_4_method_33_code
def y_M_value : MethodName := ⟨R_M, "value", "(II)I"⟩
abbrev b_M_compare : ByteArray := prog_4_method_35_code
def y_M_compare : MethodName := ⟨R_M, "compare", "(II)I"⟩
abbrev b_M_compared : ByteArray := prog_4_method_34_code
def y_M_compared : MethodName := ⟨R_M, "compared", "(II)I"⟩
abbrev b_M_ratio : ByteArray := prog_4_method_36_code
def y_M_ratio : MethodName := ⟨R_M, "ratio", "(III)J"⟩
abbrev b_M_same : ByteArray := prog_4_method_37_code
def y_M_same : MethodName := ⟨R_M, "same", "(II)Z"⟩
abbrev b_M_fastest : ByteArray := prog_4_method_38_code
def y_M_fastest : MethodName := ⟨R_M, "fastest", "(I)I"⟩
abbrev b_M_count : ByteArray := prog_4_method_39_code
def y_M_count : MethodName := ⟨R_M, "count", "()I"⟩
abbrev b_L_law : ByteArray := code
def y_L_law : MethodName := ⟨R_L, "law", "([I)Z"⟩
abbrev vwCl : List vw_C := [(R_W, F_W, 4), (R_G, F_G, 4), (R_M, F_M, 11)]
def BIG : List Cond := lw_tbl.filter goodWord
theorem big_good {w : Cond} (h : w ∈ BIG) : (w.onTables && w.keeps) = true ∨ ∃ ty, w = .arrayClass ty := good_of_word (List.mem_filter.mp h).2
theorem goodB {c : Cond} (h : c ∈ BIG) : GoodIn BIG (c :: BIG) := fun w hw => by
  rcases List.mem_cons.mp hw with rfl | hw
  · exact ⟨h, big_good h⟩
  · exact ⟨hw, big_good hw⟩
theorem goodV {own : String} {idx : Nat} {C : String} {y : MethodName} {c : Cond} (h1 : Cond.methodLink own idx y ∈ BIG) (h2 : Cond.instanceMethod y ∈ BIG) (h3 : Cond.selects C y y ∈ BIG) (h4 : Cond.initialized C ∈ BIG) (h5 : c ∈ BIG) : GoodIn BIG (wsV own idx C y (c :: BIG)) := fun w hw => by
  unfold wsV at hw
  rcases List.mem_append.mp hw with hw | hw
  · have : w ∈ BIG := by
      rcases List.mem_cons.mp hw with rfl | hw
      · exact h1
      rcases List.mem_cons.mp hw with rfl | hw
      · exact h2
      rcases List.mem_cons.mp hw with rfl | hw
      · exact h3
      rcases List.mem_cons.mp hw with rfl | hw
      · exact h4
      · cases hw
    exact ⟨this, big_good this⟩
  · exact goodB h5 w hw
theorem goodS {own : String} {idx : Nat} {y : MethodName} {c : Cond} (h1 : Cond.methodLink own idx y ∈ BIG) (h2 : Cond.static y ∈ BIG) (h4 : Cond.initialized own ∈ BIG) (h5 : c ∈ BIG) : GoodIn BIG (wsS own idx y (c :: BIG)) := fun w hw => by
  unfold wsS at hw
  rcases List.mem_append.mp hw with hw | hw
  · have : w ∈ BIG := by
      rcases List.mem_cons.mp hw with rfl | hw
      · exact h1
      rcases List.mem_cons.mp hw with rfl | hw
      · exact h2
      rcases List.mem_cons.mp hw with rfl | hw
      · exact h4
      · cases hw
    exact ⟨this, big_good this⟩
  · exact goodB h5 w hw
theorem inF_W : ∀ w ∈ u_ws R_W F_W 4, w ∈ BIG := by decide +kernel
theorem inF_G : ∀ w ∈ u_ws R_G F_G 4, w ∈ BIG := by decide +kernel
theorem inF_M : ∀ w ∈ u_ws R_M F_M 11, w ∈ BIG := by decide +kernel
