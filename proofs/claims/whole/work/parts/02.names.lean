/-! Names: printed by wip/gen/names.py. -/
def R_CD : String := "IntegerSplitter$CommonDivisor"
def R_Fa : String := "IntegerSplitter$Factors"
def R_Li : String := "IntegerSplitter$Lifting"
def R_MP : String := "IntegerSplitter$ModularParts"
def R_Sp : String := "IntegerSplitter$Splitter"
def R_IS : String := "IntegerSplitter"
def R_Mo : String := "IntegerSplitterModel"
def R_Ro : String := "IntegerSplitter$Rows"
def R_Re : String := "IntegerSplitter$Residues"
def R_La : String := "IntegerSplitterLaw"
def R_Ar : String := "java/util/Arrays"
def R_Lo : String := "java/lang/Long"
def zall : List Cond := lw_tbl.filter goodWord
theorem z_mem {w : Cond} (h : w ∈ tables_1) (hg : goodWord w = true) : w ∈ zall := List.mem_filter.mpr ⟨List.mem_append_right _ h, hg⟩
theorem z_t1 {w : Cond} (h : w ∈ tables_1_1) (hg : goodWord w = true) : w ∈ zall := z_mem (List.mem_append_left _ h) hg
theorem z_t2 {w : Cond} (h : w ∈ tables_1_2) (hg : goodWord w = true) : w ∈ zall := z_mem (List.mem_append_right _ (List.mem_append_left _ h)) hg
theorem z_t3 {w : Cond} (h : w ∈ tables_1_3) (hg : goodWord w = true) : w ∈ zall := z_mem (List.mem_append_right _ (List.mem_append_right _ (List.mem_append_left _ h))) hg
theorem z_t4 {w : Cond} (h : w ∈ tables_1_4) (hg : goodWord w = true) : w ∈ zall := z_mem (List.mem_append_right _ (List.mem_append_right _ (List.mem_append_right _ (List.mem_append_left _ h)))) hg
theorem z_t5 {w : Cond} (h : w ∈ tables_1_5) (hg : goodWord w = true) : w ∈ zall := z_mem (List.mem_append_right _ (List.mem_append_right _ (List.mem_append_right _ (List.mem_append_right _ (h))))) hg
theorem z_good {c : Cond} {ws : List Cond} (h : ∀ w ∈ ws, w ∈ zall) : GoodIn (c :: zall) ws := fun w hw => ⟨List.mem_cons_of_mem _ (h w hw), good_of_word (List.mem_filter.mp (h w hw)).2⟩
def T_CD : u_T := fun k => match k with
  | 0 => ("IntegerSplitter$CommonDivisor", "first", "[J", true)
  | 1 => ("IntegerSplitter$CommonDivisor", "second", "[J", true)
  | 2 => ("IntegerSplitter$CommonDivisor", "found", "[J", true)
  | 3 => ("IntegerSplitter$CommonDivisor", "high", "[J", true)
  | 4 => ("IntegerSplitter$CommonDivisor", "low", "[J", true)
  | _ => ("IntegerSplitter$CommonDivisor", "scratch", "[J", true)
def ty_CD : Nat → FieldType := fun k => match k with
  | 0 => .array .long
  | 1 => .array .long
  | 2 => .array .long
  | 3 => .array .long
  | 4 => .array .long
  | _ => .array .long
theorem nm_CD : ∀ a, a < 6 → ∀ b, b < 6 → a ≠ b → (T_CD a).2.1 ≠ (T_CD b).2.1 := by decide +kernel
theorem tyok_CD : ∀ k, k < 6 → parseFieldDescriptor (T_CD k).2.2.1 = some (ty_CD k) := by decide +kernel
def T_Fa : u_T := fun k => match k with
  | 0 => ("IntegerSplitter$Factors", "rows", "[[J", true)
  | 1 => ("IntegerSplitter$Factors", "times", "[I", true)
  | 2 => ("IntegerSplitter$Factors", "count", "I", false)
  | _ => ("IntegerSplitter$Factors", "outside", "J", false)
def ty_Fa : Nat → FieldType := fun k => match k with
  | 0 => .array (.array .long)
  | 1 => .array .int
  | 2 => .int
  | _ => .long
theorem nm_Fa : ∀ a, a < 4 → ∀ b, b < 4 → a ≠ b → (T_Fa a).2.1 ≠ (T_Fa b).2.1 := by decide +kernel
theorem tyok_Fa : ∀ k, k < 4 → parseFieldDescriptor (T_Fa k).2.2.1 = some (ty_Fa k) := by decide +kernel
def T_Li : u_T := fun k => match k with
  | 0 => ("IntegerSplitter$Lifting", "rows", "[[J", true)
  | 1 => ("IntegerSplitter$Lifting", "modulus", "J", false)
  | 2 => ("IntegerSplitter$Lifting", "inverses", "[[J", true)
  | 3 => ("IntegerSplitter$Lifting", "product", "[J", true)
  | 4 => ("IntegerSplitter$Lifting", "power", "[J", true)
  | _ => ("IntegerSplitter$Lifting", "scratch", "[J", true)
def ty_Li : Nat → FieldType := fun k => match k with
  | 0 => .array (.array .long)
  | 1 => .long
  | 2 => .array (.array .long)
  | 3 => .array .long
  | 4 => .array .long
  | _ => .array .long
theorem nm_Li : ∀ a, a < 6 → ∀ b, b < 6 → a ≠ b → (T_Li a).2.1 ≠ (T_Li b).2.1 := by decide +kernel
theorem tyok_Li : ∀ k, k < 6 → parseFieldDescriptor (T_Li k).2.2.1 = some (ty_Li k) := by decide +kernel
def T_MP : u_T := fun k => match k with
  | 0 => ("IntegerSplitter$ModularParts", "rows", "[[J", true)
  | 1 => ("IntegerSplitter$ModularParts", "count", "I", false)
  | 2 => ("IntegerSplitter$ModularParts", "matrix", "[[J", true)
  | 3 => ("IntegerSplitter$ModularParts", "kernel", "[[J", true)
  | 4 => ("IntegerSplitter$ModularParts", "pivot", "[I", true)
  | 5 => ("IntegerSplitter$ModularParts", "power", "[J", true)
  | 6 => ("IntegerSplitter$ModularParts", "part", "[J", true)
  | 7 => ("IntegerSplitter$ModularParts", "high", "[J", true)
  | 8 => ("IntegerSplitter$ModularParts", "low", "[J", true)
  | _ => ("IntegerSplitter$ModularParts", "scratch", "[J", true)
def ty_MP : Nat → FieldType := fun k => match k with
  | 0 => .array (.array .long)
  | 1 => .int
  | 2 => .array (.array .long)
  | 3 => .array (.array .long)
  | 4 => .array .int
  | 5 => .array .long
  | 6 => .array .long
  | 7 => .array .long
  | 8 => .array .long
  | _ => .array .long
theorem nm_MP : ∀ a, a < 10 → ∀ b, b < 10 → a ≠ b → (T_MP a).2.1 ≠ (T_MP b).2.1 := by decide +kernel
theorem tyok_MP : ∀ k, k < 10 → parseFieldDescriptor (T_MP k).2.2.1 = some (ty_MP k) := by decide +kernel
def T_Sp : u_T := fun k => match k with
  | 0 => ("IntegerSplitter$Splitter", "divisor", "LIntegerSplitter$CommonDivisor;", true)
  | 1 => ("IntegerSplitter$Splitter", "parts", "LIntegerSplitter$ModularParts;", true)
  | 2 => ("IntegerSplitter$Splitter", "lifting", "LIntegerSplitter$Lifting;", true)
  | 3 => ("IntegerSplitter$Splitter", "whole", "[J", true)
  | 4 => ("IntegerSplitter$Splitter", "open", "[J", true)
  | 5 => ("IntegerSplitter$Splitter", "slope", "[J", true)
  | 6 => ("IntegerSplitter$Splitter", "candidate", "[J", true)
  | 7 => ("IntegerSplitter$Splitter", "quotient", "[J", true)
  | _ => ("IntegerSplitter$Splitter", "rest", "[J", true)
def ty_Sp : Nat → FieldType := fun k => match k with
  | 0 => .object "IntegerSplitter$CommonDivisor"
  | 1 => .object "IntegerSplitter$ModularParts"
  | 2 => .object "IntegerSplitter$Lifting"
  | 3 => .array .long
  | 4 => .array .long
  | 5 => .array .long
  | 6 => .array .long
  | 7 => .array .long
  | _ => .array .long
theorem nm_Sp : ∀ a, a < 9 → ∀ b, b < 9 → a ≠ b → (T_Sp a).2.1 ≠ (T_Sp b).2.1 := by decide +kernel
theorem tyok_Sp : ∀ k, k < 9 → parseFieldDescriptor (T_Sp k).2.2.1 = some (ty_Sp k) := by decide +kernel
def T_IS : u_T := fun k => match k with
  | 0 => ("IntegerSplitter", "registers", "[[J", true)
  | 1 => ("IntegerSplitter", "result", "[J", true)
  | 2 => ("IntegerSplitter", "quotient", "[J", true)
  | 3 => ("IntegerSplitter", "rest", "[J", true)
  | 4 => ("IntegerSplitter", "splitter", "LIntegerSplitter$Splitter;", true)
  | 5 => ("IntegerSplitter", "told", "LIntegerSplitter$Factors;", true)
  | _ => ("IntegerSplitter", "untold", "LIntegerSplitter$Factors;", true)
def ty_IS : Nat → FieldType := fun k => match k with
  | 0 => .array (.array .long)
  | 1 => .array .long
  | 2 => .array .long
  | 3 => .array .long
  | 4 => .object "IntegerSplitter$Splitter"
  | 5 => .object "IntegerSplitter$Factors"
  | _ => .object "IntegerSplitter$Factors"
theorem nm_IS : ∀ a, a < 7 → ∀ b, b < 7 → a ≠ b → (T_IS a).2.1 ≠ (T_IS b).2.1 := by decide +kernel
theorem tyok_IS : ∀ k, k < 7 → parseFieldDescriptor (T_IS k).2.2.1 = some (ty_IS k) := by decide +kernel
def T_Mo : u_T := fun k => match k with
  | 0 => ("IntegerSplitterModel", "thrown", "I", false)
  | 1 => ("IntegerSplitterModel", "regs", "[I", true)
  | 2 => ("IntegerSplitterModel", "unit", "I", false)
  | 3 => ("IntegerSplitterModel", "count", "I", false)
  | 4 => ("IntegerSplitterModel", "powers", "[I", true)
  | 5 => ("IntegerSplitterModel", "factors", "[J", true)
  | 6 => ("IntegerSplitterModel", "newCount", "I", false)
  | 7 => ("IntegerSplitterModel", "newFactors", "[J", true)
  | 8 => ("IntegerSplitterModel", "whole", "[J", true)
  | 9 => ("IntegerSplitterModel", "bare", "[J", true)
  | 10 => ("IntegerSplitterModel", "one", "[J", true)
  | 11 => ("IntegerSplitterModel", "two", "[J", true)
  | 12 => ("IntegerSplitterModel", "sum", "[J", true)
  | 13 => ("IntegerSplitterModel", "rest", "[J", true)
  | 14 => ("IntegerSplitterModel", "quotient", "[J", true)
  | 15 => ("IntegerSplitterModel", "u", "[J", true)
  | 16 => ("IntegerSplitterModel", "v", "[J", true)
  | 17 => ("IntegerSplitterModel", "shared", "[J", true)
  | 18 => ("IntegerSplitterModel", "tried", "[J", true)
  | 19 => ("IntegerSplitterModel", "finer", "[J", true)
  | 20 => ("IntegerSplitterModel", "fine", "[J", true)
  | 21 => ("IntegerSplitterModel", "candidate", "[J", true)
  | _ => ("IntegerSplitterModel", "great", "[I", true)
def ty_Mo : Nat → FieldType := fun k => match k with
  | 0 => .int
  | 1 => .array .int
  | 2 => .int
  | 3 => .int
  | 4 => .array .int
  | 5 => .array .long
  | 6 => .int
  | 7 => .array .long
  | 8 => .array .long
  | 9 => .array .long
  | 10 => .array .long
  | 11 => .array .long
  | 12 => .array .long
  | 13 => .array .long
  | 14 => .array .long
  | 15 => .array .long
  | 16 => .array .long
  | 17 => .array .long
  | 18 => .array .long
  | 19 => .array .long
  | 20 => .array .long
  | 21 => .array .long
  | _ => .array .int
theorem nm_Mo : ∀ a, a < 23 → ∀ b, b < 23 → a ≠ b → (T_Mo a).2.1 ≠ (T_Mo b).2.1 := by decide +kernel
theorem tyok_Mo : ∀ k, k < 23 → parseFieldDescriptor (T_Mo k).2.2.1 = some (ty_Mo k) := by decide +kernel
abbrev zCl : List vw_C := [(R_CD, T_CD, 6), (R_Fa, T_Fa, 4), (R_Li, T_Li, 6), (R_MP, T_MP, 10), (R_Sp, T_Sp, 9), (R_IS, T_IS, 7), (R_Mo, T_Mo, 23)]
def y_IS_init : MethodName := ⟨R_IS, "<init>", "()V"⟩
def y_IS_put : MethodName := ⟨R_IS, "put", "(III)I"⟩
def y_IS_coefficient : MethodName := ⟨R_IS, "coefficient", "(II)I"⟩
def y_IS_degree : MethodName := ⟨R_IS, "degree", "(I)I"⟩
def y_IS_add : MethodName := ⟨R_IS, "add", "(IIIZ)I"⟩
def y_IS_multiply : MethodName := ⟨R_IS, "multiply", "(III)I"⟩
def y_IS_derive : MethodName := ⟨R_IS, "derive", "(II)I"⟩
def y_IS_shift : MethodName := ⟨R_IS, "shift", "(III)I"⟩
def y_IS_divide : MethodName := ⟨R_IS, "divide", "(III)I"⟩
def y_IS_common : MethodName := ⟨R_IS, "common", "(III)I"⟩
def y_IS_value : MethodName := ⟨R_IS, "value", "(II)J"⟩
def y_IS_content : MethodName := ⟨R_IS, "content", "(I)I"⟩
def y_IS_factor : MethodName := ⟨R_IS, "factor", "(I)I"⟩
def y_IS_unit : MethodName := ⟨R_IS, "unit", "()I"⟩
def y_IS_multiplicity : MethodName := ⟨R_IS, "multiplicity", "(I)I"⟩
def y_IS_factorAt : MethodName := ⟨R_IS, "factorAt", "(II)I"⟩
def y_IS_take : MethodName := ⟨R_IS, "take", "(II)Z"⟩
def y_IS_prime : MethodName := ⟨R_IS, "prime", "(I)Z"⟩
def y_IS_modular : MethodName := ⟨R_IS, "modular", "(II)I"⟩
def y_IS_roots : MethodName := ⟨R_IS, "roots", "(II)I"⟩
def y_IS_requireRegister : MethodName := ⟨R_IS, "requireRegister", "(I)V"⟩
def y_IS_requirePlace : MethodName := ⟨R_IS, "requirePlace", "(I)V"⟩
def y_IS_requireNear : MethodName := ⟨R_IS, "requireNear", "(I)V"⟩
def y_IS_requireModulus : MethodName := ⟨R_IS, "requireModulus", "(I)V"⟩
def y_IS_requireFactor : MethodName := ⟨R_IS, "requireFactor", "(I)V"⟩
def y_IS_keep : MethodName := ⟨R_IS, "keep", "(I[J)I"⟩
def y_IS_isWithinLimits : MethodName := ⟨R_IS, "isWithinLimits", "([J)Z"⟩
def y_IS_isPrimeNumber : MethodName := ⟨R_IS, "isPrimeNumber", "(J)Z"⟩
def y_Mo_init : MethodName := ⟨R_Mo, "<init>", "()V"⟩
def y_Mo_thrown : MethodName := ⟨R_Mo, "thrown", "()I"⟩
def y_Mo_isRegister : MethodName := ⟨R_Mo, "isRegister", "(I)Z"⟩
def y_Mo_degreeOf : MethodName := ⟨R_Mo, "degreeOf", "([J)I"⟩
def y_Mo_copy : MethodName := ⟨R_Mo, "copy", "([J[J)V"⟩
def y_Mo_load : MethodName := ⟨R_Mo, "load", "(I[J)V"⟩
def y_Mo_fits : MethodName := ⟨R_Mo, "fits", "([J)Z"⟩
def y_Mo_keep : MethodName := ⟨R_Mo, "keep", "(I[J)I"⟩
def y_Mo_amount : MethodName := ⟨R_Mo, "amount", "(J)J"⟩
def y_Mo_divisor : MethodName := ⟨R_Mo, "divisor", "(JJ)J"⟩
def y_Mo_contentOf : MethodName := ⟨R_Mo, "contentOf", "([J)J"⟩
def y_Mo_scale : MethodName := ⟨R_Mo, "scale", "([JJ)V"⟩
def y_Mo_put : MethodName := ⟨R_Mo, "put", "(III)I"⟩
def y_Mo_coefficient : MethodName := ⟨R_Mo, "coefficient", "(II)I"⟩
def y_Mo_degree : MethodName := ⟨R_Mo, "degree", "(I)I"⟩
def y_Mo_settle : MethodName := ⟨R_Mo, "settle", "(I[JI)I"⟩
def y_Mo_add : MethodName := ⟨R_Mo, "add", "(IIIZ)I"⟩
def y_Mo_multiply : MethodName := ⟨R_Mo, "multiply", "(III)I"⟩
def y_Mo_derive : MethodName := ⟨R_Mo, "derive", "(II)I"⟩
def y_Mo_derivative : MethodName := ⟨R_Mo, "derivative", "([J[J)V"⟩
def y_Mo_shift : MethodName := ⟨R_Mo, "shift", "(III)I"⟩
def y_Mo_divides : MethodName := ⟨R_Mo, "divides", "([J[J)Z"⟩
def y_Mo_divide : MethodName := ⟨R_Mo, "divide", "(III)I"⟩
def y_Mo_value : MethodName := ⟨R_Mo, "value", "(II)J"⟩
def y_Mo_content : MethodName := ⟨R_Mo, "content", "(I)I"⟩
def y_Mo_left : MethodName := ⟨R_Mo, "left", "(JJ)J"⟩
def y_Mo_dividesModulo : MethodName := ⟨R_Mo, "dividesModulo", "([JI[JIJ)Z"⟩
def y_Mo_inverse : MethodName := ⟨R_Mo, "inverse", "(JJ)J"⟩
def y_Mo_reduce : MethodName := ⟨R_Mo, "reduce", "([J[JIJ)V"⟩
def y_Mo_euclid : MethodName := ⟨R_Mo, "euclid", "([J[JJ)I"⟩
def y_Mo_guess : MethodName := ⟨R_Mo, "guess", "(J[JIJ)V"⟩
def y_Mo_isShared : MethodName := ⟨R_Mo, "isShared", "(JIJ[J[J)Z"⟩
def y_Mo_share : MethodName := ⟨R_Mo, "share", "([J[J)V"⟩
def y_Mo_common : MethodName := ⟨R_Mo, "common", "(III)I"⟩
def y_Mo_isPrimeNumber : MethodName := ⟨R_Mo, "isPrimeNumber", "(J)Z"⟩
def y_Mo_goodPrime : MethodName := ⟨R_Mo, "goodPrime", "()J"⟩
def y_Mo_lay : MethodName := ⟨R_Mo, "lay", "(JIJ)V"⟩
def y_Mo_power : MethodName := ⟨R_Mo, "power", "(JI)J"⟩
def y_Mo_refine : MethodName := ⟨R_Mo, "refine", "(IIJJ)V"⟩
def y_Mo_note : MethodName := ⟨R_Mo, "note", "([J)V"⟩
def y_Mo_isFactor : MethodName := ⟨R_Mo, "isFactor", "(JIJ)Z"⟩
def y_Mo_splits : MethodName := ⟨R_Mo, "splits", "(IIJ)Z"⟩
def y_Mo_split : MethodName := ⟨R_Mo, "split", "()V"⟩
def y_Mo_isBefore : MethodName := ⟨R_Mo, "isBefore", "(II)Z"⟩
def y_Mo_sort : MethodName := ⟨R_Mo, "sort", "()V"⟩
def y_Mo_takeApart : MethodName := ⟨R_Mo, "takeApart", "()V"⟩
def y_Mo_often : MethodName := ⟨R_Mo, "often", "(I)I"⟩
def y_Mo_prepare : MethodName := ⟨R_Mo, "prepare", "(I)I"⟩
def y_Mo_factor : MethodName := ⟨R_Mo, "factor", "(I)I"⟩
def y_Mo_unit : MethodName := ⟨R_Mo, "unit", "()I"⟩
def y_Mo_noFactor : MethodName := ⟨R_Mo, "noFactor", "(I)Z"⟩
def y_Mo_multiplicity : MethodName := ⟨R_Mo, "multiplicity", "(I)I"⟩
def y_Mo_factorAt : MethodName := ⟨R_Mo, "factorAt", "(II)I"⟩
def y_Mo_take : MethodName := ⟨R_Mo, "take", "(II)Z"⟩
def y_Mo_prime : MethodName := ⟨R_Mo, "prime", "(I)Z"⟩
def y_Mo_isSmall : MethodName := ⟨R_Mo, "isSmall", "(I)Z"⟩
def y_Mo_modular : MethodName := ⟨R_Mo, "modular", "(II)I"⟩
def y_Mo_roots : MethodName := ⟨R_Mo, "roots", "(II)I"⟩
def y_CD_init : MethodName := ⟨R_CD, "<init>", "()V"⟩
def y_CD_find : MethodName := ⟨R_CD, "find", "([J[J)[J"⟩
def y_CD_findPrimitive : MethodName := ⟨R_CD, "findPrimitive", "()V"⟩
def y_Fa_init : MethodName := ⟨R_Fa, "<init>", "()V"⟩
def y_Fa_begin : MethodName := ⟨R_Fa, "begin", "(J)V"⟩
def y_Fa_insert : MethodName := ⟨R_Fa, "insert", "([JI)V"⟩
def y_Fa_standsBefore : MethodName := ⟨R_Fa, "standsBefore", "([J[J)Z"⟩
def y_Li_init : MethodName := ⟨R_Li, "<init>", "()V"⟩
def y_Li_lift : MethodName := ⟨R_Li, "lift", "([JLIntegerSplitter$ModularParts;J)V"⟩
def y_Li_multiplyOthers : MethodName := ⟨R_Li, "multiplyOthers", "(IJLIntegerSplitter$ModularParts;J)V"⟩
def y_Li_fillInverse : MethodName := ⟨R_Li, "fillInverse", "([J[JJ)V"⟩
def y_Li_findError : MethodName := ⟨R_Li, "findError", "([JIJ)V"⟩
def y_MP_init : MethodName := ⟨R_MP, "<init>", "()V"⟩
def y_MP_countOf : MethodName := ⟨R_MP, "countOf", "([JJ)I"⟩
def y_MP_find : MethodName := ⟨R_MP, "find", "([JJ)V"⟩
def y_MP_fillMatrix : MethodName := ⟨R_MP, "fillMatrix", "(IJ)V"⟩
def y_MP_fillKernel : MethodName := ⟨R_MP, "fillKernel", "(IJ)I"⟩
def y_MP_freeColumn : MethodName := ⟨R_MP, "freeColumn", "(II)I"⟩
def y_MP_fillKernelRow : MethodName := ⟨R_MP, "fillKernelRow", "(III)V"⟩
def y_MP_clearRow : MethodName := ⟨R_MP, "clearRow", "(IIIJ)V"⟩
def y_MP_splitAll : MethodName := ⟨R_MP, "splitAll", "([JJJ)V"⟩
def y_Re_residue : MethodName := ⟨R_Re, "residue", "(JJ)J"⟩
def y_Re_nearest : MethodName := ⟨R_Re, "nearest", "(JJ)J"⟩
def y_Re_inverseOf : MethodName := ⟨R_Re, "inverseOf", "(JJ)J"⟩
def y_Re_reduceInto : MethodName := ⟨R_Re, "reduceInto", "([J[JJ)V"⟩
def y_Re_makeMonic : MethodName := ⟨R_Re, "makeMonic", "([JJ)V"⟩
def y_Re_divideOut : MethodName := ⟨R_Re, "divideOut", "([J[J[JJ)V"⟩
def y_Re_commonOf : MethodName := ⟨R_Re, "commonOf", "([J[J[JJ)[J"⟩
def y_Re_multiplyBy : MethodName := ⟨R_Re, "multiplyBy", "([J[JJ)V"⟩
def y_Re_timesX : MethodName := ⟨R_Re, "timesX", "([J[JIJ)V"⟩
def y_Re_productInto : MethodName := ⟨R_Re, "productInto", "([J[J[J[JJ)V"⟩
def y_Ro_degreeOf : MethodName := ⟨R_Ro, "degreeOf", "([J)I"⟩
def y_Ro_leadingOf : MethodName := ⟨R_Ro, "leadingOf", "([J)J"⟩
def y_Ro_copyInto : MethodName := ⟨R_Ro, "copyInto", "([J[J)V"⟩
def y_Ro_slopeInto : MethodName := ⟨R_Ro, "slopeInto", "([J[J)V"⟩
def y_Ro_greatestDivisor : MethodName := ⟨R_Ro, "greatestDivisor", "(JJ)J"⟩
def y_Ro_contentOf : MethodName := ⟨R_Ro, "contentOf", "([J)J"⟩
def y_Ro_makePrimitive : MethodName := ⟨R_Ro, "makePrimitive", "([J)J"⟩
def y_Ro_findQuotient : MethodName := ⟨R_Ro, "findQuotient", "([J[J[J[J)Z"⟩
def y_Ro_isWide : MethodName := ⟨R_Ro, "isWide", "([J)Z"⟩
def y_Sp_init : MethodName := ⟨R_Sp, "<init>", "()V"⟩
def y_Sp_takeApart : MethodName := ⟨R_Sp, "takeApart", "([JLIntegerSplitter$Factors;)V"⟩
def y_Sp_goodPrime : MethodName := ⟨R_Sp, "goodPrime", "()J"⟩
def y_Sp_combine : MethodName := ⟨R_Sp, "combine", "(LIntegerSplitter$Factors;)V"⟩
def y_Sp_degreeOfSet : MethodName := ⟨R_Sp, "degreeOfSet", "(I)I"⟩
def y_Sp_splitOff : MethodName := ⟨R_Sp, "splitOff", "(I)Z"⟩
def y_Sp_timesInWhole : MethodName := ⟨R_Sp, "timesInWhole", "([J)I"⟩
def y_La_put : MethodName := ⟨R_La, "put", "(LIntegerSplitter;III[J)I"⟩
def y_La_coefficient : MethodName := ⟨R_La, "coefficient", "(LIntegerSplitter;II[J)I"⟩
def y_La_degree : MethodName := ⟨R_La, "degree", "(LIntegerSplitter;I[J)I"⟩
def y_La_add : MethodName := ⟨R_La, "add", "(LIntegerSplitter;IIIZ[J)I"⟩
def y_La_multiply : MethodName := ⟨R_La, "multiply", "(LIntegerSplitter;III[J)I"⟩
def y_La_derive : MethodName := ⟨R_La, "derive", "(LIntegerSplitter;II[J)I"⟩
def y_La_shift : MethodName := ⟨R_La, "shift", "(LIntegerSplitter;III[J)I"⟩
def y_La_divide : MethodName := ⟨R_La, "divide", "(LIntegerSplitter;III[J)I"⟩
def y_La_common : MethodName := ⟨R_La, "common", "(LIntegerSplitter;III[J)I"⟩
def y_La_value : MethodName := ⟨R_La, "value", "(LIntegerSplitter;II[J)I"⟩
def y_La_content : MethodName := ⟨R_La, "content", "(LIntegerSplitter;I[J)I"⟩
def y_La_factor : MethodName := ⟨R_La, "factor", "(LIntegerSplitter;I[J)I"⟩
def y_La_multiplicity : MethodName := ⟨R_La, "multiplicity", "(LIntegerSplitter;I[J)I"⟩
def y_La_factorAt : MethodName := ⟨R_La, "factorAt", "(LIntegerSplitter;II[J)I"⟩
def y_La_take : MethodName := ⟨R_La, "take", "(LIntegerSplitter;II[J)I"⟩
def y_La_prime : MethodName := ⟨R_La, "prime", "(LIntegerSplitter;I[J)I"⟩
def y_La_modular : MethodName := ⟨R_La, "modular", "(LIntegerSplitter;II[J)I"⟩
def y_La_roots : MethodName := ⟨R_La, "roots", "(LIntegerSplitter;II[J)I"⟩
def y_Lo_compare : MethodName := ⟨R_Lo, "compare", "(JJ)I"⟩
def y_Ar_fillI : MethodName := ⟨R_Ar, "fill", "([II)V"⟩
def y_Ar_fillJ : MethodName := ⟨R_Ar, "fill", "([JJ)V"⟩
theorem wd49 : (Jvm.Cond.laysFinal "IntegerSplitter$CommonDivisor" "IntegerSplitter$CommonDivisor" "first" "[J") ∈ zall := z_t1 (List.mem_of_getElem? (i := 49) rfl) (by decide +kernel)
theorem wd51 : (Jvm.Cond.laysFinal "IntegerSplitter$CommonDivisor" "IntegerSplitter$CommonDivisor" "second" "[J") ∈ zall := z_t1 (List.mem_of_getElem? (i := 51) rfl) (by decide +kernel)
theorem wd53 : (Jvm.Cond.laysFinal "IntegerSplitter$CommonDivisor" "IntegerSplitter$CommonDivisor" "found" "[J") ∈ zall := z_t1 (List.mem_of_getElem? (i := 53) rfl) (by decide +kernel)
theorem wd55 : (Jvm.Cond.laysFinal "IntegerSplitter$CommonDivisor" "IntegerSplitter$CommonDivisor" "high" "[J") ∈ zall := z_t1 (List.mem_of_getElem? (i := 55) rfl) (by decide +kernel)
theorem wd57 : (Jvm.Cond.laysFinal "IntegerSplitter$CommonDivisor" "IntegerSplitter$CommonDivisor" "low" "[J") ∈ zall := z_t1 (List.mem_of_getElem? (i := 57) rfl) (by decide +kernel)
theorem wd59 : (Jvm.Cond.laysFinal "IntegerSplitter$CommonDivisor" "IntegerSplitter$CommonDivisor" "scratch" "[J") ∈ zall := z_t1 (List.mem_of_getElem? (i := 59) rfl) (by decide +kernel)
theorem wd84 : (Jvm.Cond.laysFinal "IntegerSplitter$ModularParts" "IntegerSplitter$ModularParts" "rows" "[[J") ∈ zall := z_t1 (List.mem_of_getElem? (i := 84) rfl) (by decide +kernel)
theorem wd86 : (Jvm.Cond.lays "IntegerSplitter$ModularParts" "IntegerSplitter$ModularParts" "count" "I") ∈ zall := z_t1 (List.mem_of_getElem? (i := 86) rfl) (by decide +kernel)
theorem wd88 : (Jvm.Cond.laysFinal "IntegerSplitter$ModularParts" "IntegerSplitter$ModularParts" "matrix" "[[J") ∈ zall := z_t1 (List.mem_of_getElem? (i := 88) rfl) (by decide +kernel)
theorem wd90 : (Jvm.Cond.laysFinal "IntegerSplitter$ModularParts" "IntegerSplitter$ModularParts" "kernel" "[[J") ∈ zall := z_t1 (List.mem_of_getElem? (i := 90) rfl) (by decide +kernel)
theorem wd92 : (Jvm.Cond.laysFinal "IntegerSplitter$ModularParts" "IntegerSplitter$ModularParts" "pivot" "[I") ∈ zall := z_t1 (List.mem_of_getElem? (i := 92) rfl) (by decide +kernel)
theorem wd94 : (Jvm.Cond.laysFinal "IntegerSplitter$ModularParts" "IntegerSplitter$ModularParts" "power" "[J") ∈ zall := z_t1 (List.mem_of_getElem? (i := 94) rfl) (by decide +kernel)
theorem wd96 : (Jvm.Cond.laysFinal "IntegerSplitter$ModularParts" "IntegerSplitter$ModularParts" "part" "[J") ∈ zall := z_t1 (List.mem_of_getElem? (i := 96) rfl) (by decide +kernel)
theorem wd98 : (Jvm.Cond.laysFinal "IntegerSplitter$ModularParts" "IntegerSplitter$ModularParts" "high" "[J") ∈ zall := z_t1 (List.mem_of_getElem? (i := 98) rfl) (by decide +kernel)
theorem wd100 : (Jvm.Cond.laysFinal "IntegerSplitter$ModularParts" "IntegerSplitter$ModularParts" "low" "[J") ∈ zall := z_t1 (List.mem_of_getElem? (i := 100) rfl) (by decide +kernel)
theorem wd102 : (Jvm.Cond.laysFinal "IntegerSplitter$ModularParts" "IntegerSplitter$ModularParts" "scratch" "[J") ∈ zall := z_t1 (List.mem_of_getElem? (i := 102) rfl) (by decide +kernel)
theorem wd121 : (Jvm.Cond.laysFinal "IntegerSplitter$Lifting" "IntegerSplitter$Lifting" "rows" "[[J") ∈ zall := z_t1 (List.mem_of_getElem? (i := 121) rfl) (by decide +kernel)
theorem wd123 : (Jvm.Cond.lays "IntegerSplitter$Lifting" "IntegerSplitter$Lifting" "modulus" "J") ∈ zall := z_t1 (List.mem_of_getElem? (i := 123) rfl) (by decide +kernel)
theorem wd125 : (Jvm.Cond.laysFinal "IntegerSplitter$Lifting" "IntegerSplitter$Lifting" "inverses" "[[J") ∈ zall := z_t1 (List.mem_of_getElem? (i := 125) rfl) (by decide +kernel)
theorem wd127 : (Jvm.Cond.laysFinal "IntegerSplitter$Lifting" "IntegerSplitter$Lifting" "product" "[J") ∈ zall := z_t1 (List.mem_of_getElem? (i := 127) rfl) (by decide +kernel)
theorem wd129 : (Jvm.Cond.laysFinal "IntegerSplitter$Lifting" "IntegerSplitter$Lifting" "power" "[J") ∈ zall := z_t1 (List.mem_of_getElem? (i := 129) rfl) (by decide +kernel)
theorem wd131 : (Jvm.Cond.laysFinal "IntegerSplitter$Lifting" "IntegerSplitter$Lifting" "scratch" "[J") ∈ zall := z_t1 (List.mem_of_getElem? (i := 131) rfl) (by decide +kernel)
theorem wd145 : (Jvm.Cond.laysFinal "IntegerSplitter$Splitter" "IntegerSplitter$Splitter" "divisor" "LIntegerSplitter$CommonDivisor;") ∈ zall := z_t1 (List.mem_of_getElem? (i := 145) rfl) (by decide +kernel)
theorem wd147 : (Jvm.Cond.laysFinal "IntegerSplitter$Splitter" "IntegerSplitter$Splitter" "parts" "LIntegerSplitter$ModularParts;") ∈ zall := z_t1 (List.mem_of_getElem? (i := 147) rfl) (by decide +kernel)
theorem wd149 : (Jvm.Cond.laysFinal "IntegerSplitter$Splitter" "IntegerSplitter$Splitter" "lifting" "LIntegerSplitter$Lifting;") ∈ zall := z_t1 (List.mem_of_getElem? (i := 149) rfl) (by decide +kernel)
theorem wd151 : (Jvm.Cond.laysFinal "IntegerSplitter$Splitter" "IntegerSplitter$Splitter" "whole" "[J") ∈ zall := z_t1 (List.mem_of_getElem? (i := 151) rfl) (by decide +kernel)
theorem wd153 : (Jvm.Cond.laysFinal "IntegerSplitter$Splitter" "IntegerSplitter$Splitter" "open" "[J") ∈ zall := z_t1 (List.mem_of_getElem? (i := 153) rfl) (by decide +kernel)
theorem wd155 : (Jvm.Cond.laysFinal "IntegerSplitter$Splitter" "IntegerSplitter$Splitter" "slope" "[J") ∈ zall := z_t1 (List.mem_of_getElem? (i := 155) rfl) (by decide +kernel)
theorem wd157 : (Jvm.Cond.laysFinal "IntegerSplitter$Splitter" "IntegerSplitter$Splitter" "candidate" "[J") ∈ zall := z_t1 (List.mem_of_getElem? (i := 157) rfl) (by decide +kernel)
theorem wd159 : (Jvm.Cond.laysFinal "IntegerSplitter$Splitter" "IntegerSplitter$Splitter" "quotient" "[J") ∈ zall := z_t1 (List.mem_of_getElem? (i := 159) rfl) (by decide +kernel)
theorem wd161 : (Jvm.Cond.laysFinal "IntegerSplitter$Splitter" "IntegerSplitter$Splitter" "rest" "[J") ∈ zall := z_t1 (List.mem_of_getElem? (i := 161) rfl) (by decide +kernel)
theorem wd179 : (Jvm.Cond.laysFinal "IntegerSplitter$Factors" "IntegerSplitter$Factors" "rows" "[[J") ∈ zall := z_t1 (List.mem_of_getElem? (i := 179) rfl) (by decide +kernel)
theorem wd181 : (Jvm.Cond.laysFinal "IntegerSplitter$Factors" "IntegerSplitter$Factors" "times" "[I") ∈ zall := z_t1 (List.mem_of_getElem? (i := 181) rfl) (by decide +kernel)
theorem wd183 : (Jvm.Cond.lays "IntegerSplitter$Factors" "IntegerSplitter$Factors" "count" "I") ∈ zall := z_t1 (List.mem_of_getElem? (i := 183) rfl) (by decide +kernel)
theorem wd185 : (Jvm.Cond.lays "IntegerSplitter$Factors" "IntegerSplitter$Factors" "outside" "J") ∈ zall := z_t1 (List.mem_of_getElem? (i := 185) rfl) (by decide +kernel)
theorem wd195 : (Jvm.Cond.laysFinal "IntegerSplitter" "IntegerSplitter" "registers" "[[J") ∈ zall := z_t1 (List.mem_of_getElem? (i := 195) rfl) (by decide +kernel)
theorem wd197 : (Jvm.Cond.laysFinal "IntegerSplitter" "IntegerSplitter" "result" "[J") ∈ zall := z_t1 (List.mem_of_getElem? (i := 197) rfl) (by decide +kernel)
theorem wd199 : (Jvm.Cond.laysFinal "IntegerSplitter" "IntegerSplitter" "quotient" "[J") ∈ zall := z_t1 (List.mem_of_getElem? (i := 199) rfl) (by decide +kernel)
theorem wd201 : (Jvm.Cond.laysFinal "IntegerSplitter" "IntegerSplitter" "rest" "[J") ∈ zall := z_t1 (List.mem_of_getElem? (i := 201) rfl) (by decide +kernel)
theorem wd203 : (Jvm.Cond.laysFinal "IntegerSplitter" "IntegerSplitter" "splitter" "LIntegerSplitter$Splitter;") ∈ zall := z_t1 (List.mem_of_getElem? (i := 203) rfl) (by decide +kernel)
theorem wd205 : (Jvm.Cond.laysFinal "IntegerSplitter" "IntegerSplitter" "told" "LIntegerSplitter$Factors;") ∈ zall := z_t1 (List.mem_of_getElem? (i := 205) rfl) (by decide +kernel)
theorem wd207 : (Jvm.Cond.laysFinal "IntegerSplitter" "IntegerSplitter" "untold" "LIntegerSplitter$Factors;") ∈ zall := z_t1 (List.mem_of_getElem? (i := 207) rfl) (by decide +kernel)
theorem wd750 : (Jvm.Cond.lays "IntegerSplitterModel" "IntegerSplitterModel" "thrown" "I") ∈ zall := z_t4 (List.mem_of_getElem? (i := 30) rfl) (by decide +kernel)
theorem wd752 : (Jvm.Cond.laysFinal "IntegerSplitterModel" "IntegerSplitterModel" "regs" "[I") ∈ zall := z_t4 (List.mem_of_getElem? (i := 32) rfl) (by decide +kernel)
theorem wd754 : (Jvm.Cond.lays "IntegerSplitterModel" "IntegerSplitterModel" "unit" "I") ∈ zall := z_t4 (List.mem_of_getElem? (i := 34) rfl) (by decide +kernel)
theorem wd756 : (Jvm.Cond.lays "IntegerSplitterModel" "IntegerSplitterModel" "count" "I") ∈ zall := z_t4 (List.mem_of_getElem? (i := 36) rfl) (by decide +kernel)
theorem wd758 : (Jvm.Cond.laysFinal "IntegerSplitterModel" "IntegerSplitterModel" "powers" "[I") ∈ zall := z_t4 (List.mem_of_getElem? (i := 38) rfl) (by decide +kernel)
theorem wd760 : (Jvm.Cond.laysFinal "IntegerSplitterModel" "IntegerSplitterModel" "factors" "[J") ∈ zall := z_t4 (List.mem_of_getElem? (i := 40) rfl) (by decide +kernel)
theorem wd762 : (Jvm.Cond.lays "IntegerSplitterModel" "IntegerSplitterModel" "newCount" "I") ∈ zall := z_t4 (List.mem_of_getElem? (i := 42) rfl) (by decide +kernel)
theorem wd764 : (Jvm.Cond.laysFinal "IntegerSplitterModel" "IntegerSplitterModel" "newFactors" "[J") ∈ zall := z_t4 (List.mem_of_getElem? (i := 44) rfl) (by decide +kernel)
theorem wd766 : (Jvm.Cond.laysFinal "IntegerSplitterModel" "IntegerSplitterModel" "whole" "[J") ∈ zall := z_t4 (List.mem_of_getElem? (i := 46) rfl) (by decide +kernel)
theorem wd768 : (Jvm.Cond.laysFinal "IntegerSplitterModel" "IntegerSplitterModel" "bare" "[J") ∈ zall := z_t4 (List.mem_of_getElem? (i := 48) rfl) (by decide +kernel)
theorem wd770 : (Jvm.Cond.laysFinal "IntegerSplitterModel" "IntegerSplitterModel" "one" "[J") ∈ zall := z_t4 (List.mem_of_getElem? (i := 50) rfl) (by decide +kernel)
theorem wd772 : (Jvm.Cond.laysFinal "IntegerSplitterModel" "IntegerSplitterModel" "two" "[J") ∈ zall := z_t4 (List.mem_of_getElem? (i := 52) rfl) (by decide +kernel)
theorem wd774 : (Jvm.Cond.laysFinal "IntegerSplitterModel" "IntegerSplitterModel" "sum" "[J") ∈ zall := z_t4 (List.mem_of_getElem? (i := 54) rfl) (by decide +kernel)
theorem wd776 : (Jvm.Cond.laysFinal "IntegerSplitterModel" "IntegerSplitterModel" "rest" "[J") ∈ zall := z_t4 (List.mem_of_getElem? (i := 56) rfl) (by decide +kernel)
theorem wd778 : (Jvm.Cond.laysFinal "IntegerSplitterModel" "IntegerSplitterModel" "quotient" "[J") ∈ zall := z_t4 (List.mem_of_getElem? (i := 58) rfl) (by decide +kernel)
theorem wd780 : (Jvm.Cond.laysFinal "IntegerSplitterModel" "IntegerSplitterModel" "u" "[J") ∈ zall := z_t4 (List.mem_of_getElem? (i := 60) rfl) (by decide +kernel)
theorem wd782 : (Jvm.Cond.laysFinal "IntegerSplitterModel" "IntegerSplitterModel" "v" "[J") ∈ zall := z_t4 (List.mem_of_getElem? (i := 62) rfl) (by decide +kernel)
theorem wd784 : (Jvm.Cond.laysFinal "IntegerSplitterModel" "IntegerSplitterModel" "shared" "[J") ∈ zall := z_t4 (List.mem_of_getElem? (i := 64) rfl) (by decide +kernel)
theorem wd786 : (Jvm.Cond.laysFinal "IntegerSplitterModel" "IntegerSplitterModel" "tried" "[J") ∈ zall := z_t4 (List.mem_of_getElem? (i := 66) rfl) (by decide +kernel)
theorem wd788 : (Jvm.Cond.laysFinal "IntegerSplitterModel" "IntegerSplitterModel" "finer" "[J") ∈ zall := z_t4 (List.mem_of_getElem? (i := 68) rfl) (by decide +kernel)
theorem wd790 : (Jvm.Cond.laysFinal "IntegerSplitterModel" "IntegerSplitterModel" "fine" "[J") ∈ zall := z_t4 (List.mem_of_getElem? (i := 70) rfl) (by decide +kernel)
theorem wd792 : (Jvm.Cond.laysFinal "IntegerSplitterModel" "IntegerSplitterModel" "candidate" "[J") ∈ zall := z_t4 (List.mem_of_getElem? (i := 72) rfl) (by decide +kernel)
theorem wd794 : (Jvm.Cond.laysFinal "IntegerSplitterModel" "IntegerSplitterModel" "great" "[I") ∈ zall := z_t4 (List.mem_of_getElem? (i := 74) rfl) (by decide +kernel)
theorem hin_CD : ∀ w ∈ u_ws R_CD T_CD 6, w ∈ zall := show ∀ w ∈ ([(Jvm.Cond.laysFinal "IntegerSplitter$CommonDivisor" "IntegerSplitter$CommonDivisor" "first" "[J"), (Jvm.Cond.laysFinal "IntegerSplitter$CommonDivisor" "IntegerSplitter$CommonDivisor" "second" "[J"), (Jvm.Cond.laysFinal "IntegerSplitter$CommonDivisor" "IntegerSplitter$CommonDivisor" "found" "[J"), (Jvm.Cond.laysFinal "IntegerSplitter$CommonDivisor" "IntegerSplitter$CommonDivisor" "high" "[J"), (Jvm.Cond.laysFinal "IntegerSplitter$CommonDivisor" "IntegerSplitter$CommonDivisor" "low" "[J"), (Jvm.Cond.laysFinal "IntegerSplitter$CommonDivisor" "IntegerSplitter$CommonDivisor" "scratch" "[J")] : List Cond), w ∈ zall from List.forall_mem_cons.mpr ⟨wd49, List.forall_mem_cons.mpr ⟨wd51, List.forall_mem_cons.mpr ⟨wd53, List.forall_mem_cons.mpr ⟨wd55, List.forall_mem_cons.mpr ⟨wd57, List.forall_mem_cons.mpr ⟨wd59, fun _ h => absurd h List.not_mem_nil⟩⟩⟩⟩⟩⟩
theorem hin_Fa : ∀ w ∈ u_ws R_Fa T_Fa 4, w ∈ zall := show ∀ w ∈ ([(Jvm.Cond.laysFinal "IntegerSplitter$Factors" "IntegerSplitter$Factors" "rows" "[[J"), (Jvm.Cond.laysFinal "IntegerSplitter$Factors" "IntegerSplitter$Factors" "times" "[I"), (Jvm.Cond.lays "IntegerSplitter$Factors" "IntegerSplitter$Factors" "count" "I"), (Jvm.Cond.lays "IntegerSplitter$Factors" "IntegerSplitter$Factors" "outside" "J")] : List Cond), w ∈ zall from List.forall_mem_cons.mpr ⟨wd179, List.forall_mem_cons.mpr ⟨wd181, List.forall_mem_cons.mpr ⟨wd183, List.forall_mem_cons.mpr ⟨wd185, fun _ h => absurd h List.not_mem_nil⟩⟩⟩⟩
theorem hin_Li : ∀ w ∈ u_ws R_Li T_Li 6, w ∈ zall := show ∀ w ∈ ([(Jvm.Cond.laysFinal "IntegerSplitter$Lifting" "IntegerSplitter$Lifting" "rows" "[[J"), (Jvm.Cond.lays "IntegerSplitter$Lifting" "IntegerSplitter$Lifting" "modulus" "J"), (Jvm.Cond.laysFinal "IntegerSplitter$Lifting" "IntegerSplitter$Lifting" "inverses" "[[J"), (Jvm.Cond.laysFinal "IntegerSplitter$Lifting" "IntegerSplitter$Lifting" "product" "[J"), (Jvm.Cond.laysFinal "IntegerSplitter$Lifting" "IntegerSplitter$Lifting" "power" "[J"), (Jvm.Cond.laysFinal "IntegerSplitter$Lifting" "IntegerSplitter$Lifting" "scratch" "[J")] : List Cond), w ∈ zall from List.forall_mem_cons.mpr ⟨wd121, List.forall_mem_cons.mpr ⟨wd123, List.forall_mem_cons.mpr ⟨wd125, List.forall_mem_cons.mpr ⟨wd127, List.forall_mem_cons.mpr ⟨wd129, List.forall_mem_cons.mpr ⟨wd131, fun _ h => absurd h List.not_mem_nil⟩⟩⟩⟩⟩⟩
theorem hin_MP : ∀ w ∈ u_ws R_MP T_MP 10, w ∈ zall := show ∀ w ∈ ([(Jvm.Cond.laysFinal "IntegerSplitter$ModularParts" "IntegerSplitter$ModularParts" "rows" "[[J"), (Jvm.Cond.lays "IntegerSplitter$ModularParts" "IntegerSplitter$ModularParts" "count" "I"), (Jvm.Cond.laysFinal "IntegerSplitter$ModularParts" "IntegerSplitter$ModularParts" "matrix" "[[J"), (Jvm.Cond.laysFinal "IntegerSplitter$ModularParts" "IntegerSplitter$ModularParts" "kernel" "[[J"), (Jvm.Cond.laysFinal "IntegerSplitter$ModularParts" "IntegerSplitter$ModularParts" "pivot" "[I"), (Jvm.Cond.laysFinal "IntegerSplitter$ModularParts" "IntegerSplitter$ModularParts" "power" "[J"), (Jvm.Cond.laysFinal "IntegerSplitter$ModularParts" "IntegerSplitter$ModularParts" "part" "[J"), (Jvm.Cond.laysFinal "IntegerSplitter$ModularParts" "IntegerSplitter$ModularParts" "high" "[J"), (Jvm.Cond.laysFinal "IntegerSplitter$ModularParts" "IntegerSplitter$ModularParts" "low" "[J"), (Jvm.Cond.laysFinal "IntegerSplitter$ModularParts" "IntegerSplitter$ModularParts" "scratch" "[J")] : List Cond), w ∈ zall from List.forall_mem_cons.mpr ⟨wd84, List.forall_mem_cons.mpr ⟨wd86, List.forall_mem_cons.mpr ⟨wd88, List.forall_mem_cons.mpr ⟨wd90, List.forall_mem_cons.mpr ⟨wd92, List.forall_mem_cons.mpr ⟨wd94, List.forall_mem_cons.mpr ⟨wd96, List.forall_mem_cons.mpr ⟨wd98, List.forall_mem_cons.mpr ⟨wd100, List.forall_mem_cons.mpr ⟨wd102, fun _ h => absurd h List.not_mem_nil⟩⟩⟩⟩⟩⟩⟩⟩⟩⟩
theorem hin_Sp : ∀ w ∈ u_ws R_Sp T_Sp 9, w ∈ zall := show ∀ w ∈ ([(Jvm.Cond.laysFinal "IntegerSplitter$Splitter" "IntegerSplitter$Splitter" "divisor" "LIntegerSplitter$CommonDivisor;"), (Jvm.Cond.laysFinal "IntegerSplitter$Splitter" "IntegerSplitter$Splitter" "parts" "LIntegerSplitter$ModularParts;"), (Jvm.Cond.laysFinal "IntegerSplitter$Splitter" "IntegerSplitter$Splitter" "lifting" "LIntegerSplitter$Lifting;"), (Jvm.Cond.laysFinal "IntegerSplitter$Splitter" "IntegerSplitter$Splitter" "whole" "[J"), (Jvm.Cond.laysFinal "IntegerSplitter$Splitter" "IntegerSplitter$Splitter" "open" "[J"), (Jvm.Cond.laysFinal "IntegerSplitter$Splitter" "IntegerSplitter$Splitter" "slope" "[J"), (Jvm.Cond.laysFinal "IntegerSplitter$Splitter" "IntegerSplitter$Splitter" "candidate" "[J"), (Jvm.Cond.laysFinal "IntegerSplitter$Splitter" "IntegerSplitter$Splitter" "quotient" "[J"), (Jvm.Cond.laysFinal "IntegerSplitter$Splitter" "IntegerSplitter$Splitter" "rest" "[J")] : List Cond), w ∈ zall from List.forall_mem_cons.mpr ⟨wd145, List.forall_mem_cons.mpr ⟨wd147, List.forall_mem_cons.mpr ⟨wd149, List.forall_mem_cons.mpr ⟨wd151, List.forall_mem_cons.mpr ⟨wd153, List.forall_mem_cons.mpr ⟨wd155, List.forall_mem_cons.mpr ⟨wd157, List.forall_mem_cons.mpr ⟨wd159, List.forall_mem_cons.mpr ⟨wd161, fun _ h => absurd h List.not_mem_nil⟩⟩⟩⟩⟩⟩⟩⟩⟩
theorem hin_IS : ∀ w ∈ u_ws R_IS T_IS 7, w ∈ zall := show ∀ w ∈ ([(Jvm.Cond.laysFinal "IntegerSplitter" "IntegerSplitter" "registers" "[[J"), (Jvm.Cond.laysFinal "IntegerSplitter" "IntegerSplitter" "result" "[J"), (Jvm.Cond.laysFinal "IntegerSplitter" "IntegerSplitter" "quotient" "[J"), (Jvm.Cond.laysFinal "IntegerSplitter" "IntegerSplitter" "rest" "[J"), (Jvm.Cond.laysFinal "IntegerSplitter" "IntegerSplitter" "splitter" "LIntegerSplitter$Splitter;"), (Jvm.Cond.laysFinal "IntegerSplitter" "IntegerSplitter" "told" "LIntegerSplitter$Factors;"), (Jvm.Cond.laysFinal "IntegerSplitter" "IntegerSplitter" "untold" "LIntegerSplitter$Factors;")] : List Cond), w ∈ zall from List.forall_mem_cons.mpr ⟨wd195, List.forall_mem_cons.mpr ⟨wd197, List.forall_mem_cons.mpr ⟨wd199, List.forall_mem_cons.mpr ⟨wd201, List.forall_mem_cons.mpr ⟨wd203, List.forall_mem_cons.mpr ⟨wd205, List.forall_mem_cons.mpr ⟨wd207, fun _ h => absurd h List.not_mem_nil⟩⟩⟩⟩⟩⟩⟩
theorem hin_Mo : ∀ w ∈ u_ws R_Mo T_Mo 23, w ∈ zall := show ∀ w ∈ ([(Jvm.Cond.lays "IntegerSplitterModel" "IntegerSplitterModel" "thrown" "I"), (Jvm.Cond.laysFinal "IntegerSplitterModel" "IntegerSplitterModel" "regs" "[I"), (Jvm.Cond.lays "IntegerSplitterModel" "IntegerSplitterModel" "unit" "I"), (Jvm.Cond.lays "IntegerSplitterModel" "IntegerSplitterModel" "count" "I"), (Jvm.Cond.laysFinal "IntegerSplitterModel" "IntegerSplitterModel" "powers" "[I"), (Jvm.Cond.laysFinal "IntegerSplitterModel" "IntegerSplitterModel" "factors" "[J"), (Jvm.Cond.lays "IntegerSplitterModel" "IntegerSplitterModel" "newCount" "I"), (Jvm.Cond.laysFinal "IntegerSplitterModel" "IntegerSplitterModel" "newFactors" "[J"), (Jvm.Cond.laysFinal "IntegerSplitterModel" "IntegerSplitterModel" "whole" "[J"), (Jvm.Cond.laysFinal "IntegerSplitterModel" "IntegerSplitterModel" "bare" "[J"), (Jvm.Cond.laysFinal "IntegerSplitterModel" "IntegerSplitterModel" "one" "[J"), (Jvm.Cond.laysFinal "IntegerSplitterModel" "IntegerSplitterModel" "two" "[J"), (Jvm.Cond.laysFinal "IntegerSplitterModel" "IntegerSplitterModel" "sum" "[J"), (Jvm.Cond.laysFinal "IntegerSplitterModel" "IntegerSplitterModel" "rest" "[J"), (Jvm.Cond.laysFinal "IntegerSplitterModel" "IntegerSplitterModel" "quotient" "[J"), (Jvm.Cond.laysFinal "IntegerSplitterModel" "IntegerSplitterModel" "u" "[J"), (Jvm.Cond.laysFinal "IntegerSplitterModel" "IntegerSplitterModel" "v" "[J"), (Jvm.Cond.laysFinal "IntegerSplitterModel" "IntegerSplitterModel" "shared" "[J"), (Jvm.Cond.laysFinal "IntegerSplitterModel" "IntegerSplitterModel" "tried" "[J"), (Jvm.Cond.laysFinal "IntegerSplitterModel" "IntegerSplitterModel" "finer" "[J"), (Jvm.Cond.laysFinal "IntegerSplitterModel" "IntegerSplitterModel" "fine" "[J"), (Jvm.Cond.laysFinal "IntegerSplitterModel" "IntegerSplitterModel" "candidate" "[J"), (Jvm.Cond.laysFinal "IntegerSplitterModel" "IntegerSplitterModel" "great" "[I")] : List Cond), w ∈ zall from List.forall_mem_cons.mpr ⟨wd750, List.forall_mem_cons.mpr ⟨wd752, List.forall_mem_cons.mpr ⟨wd754, List.forall_mem_cons.mpr ⟨wd756, List.forall_mem_cons.mpr ⟨wd758, List.forall_mem_cons.mpr ⟨wd760, List.forall_mem_cons.mpr ⟨wd762, List.forall_mem_cons.mpr ⟨wd764, List.forall_mem_cons.mpr ⟨wd766, List.forall_mem_cons.mpr ⟨wd768, List.forall_mem_cons.mpr ⟨wd770, List.forall_mem_cons.mpr ⟨wd772, List.forall_mem_cons.mpr ⟨wd774, List.forall_mem_cons.mpr ⟨wd776, List.forall_mem_cons.mpr ⟨wd778, List.forall_mem_cons.mpr ⟨wd780, List.forall_mem_cons.mpr ⟨wd782, List.forall_mem_cons.mpr ⟨wd784, List.forall_mem_cons.mpr ⟨wd786, List.forall_mem_cons.mpr ⟨wd788, List.forall_mem_cons.mpr ⟨wd790, List.forall_mem_cons.mpr ⟨wd792, List.forall_mem_cons.mpr ⟨wd794, fun _ h => absurd h List.not_mem_nil⟩⟩⟩⟩⟩⟩⟩⟩⟩⟩⟩⟩⟩⟩⟩⟩⟩⟩⟩⟩⟩⟩⟩
