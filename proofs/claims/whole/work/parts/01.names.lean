-- ===== PART A: goes FIRST, ahead of the names: the tables' words, and 'selects' of the private methods out of them =====
/-- a private method of a class that the tables say can be made, by its rows of tables_1 -/
def lw_okq (q : MethodName × Nat) : Prop := (q.1.cls ≠ "java/lang/invoke/MethodHandle" ∧ q.1.cls ≠ "java/lang/invoke/VarHandle") ∧ Cond.instantiable q.1.cls q.2 ∈ tables_1 ∧ Cond.privateMethod q.1 ∈ tables_1 ∧ Cond.instanceMethod q.1 ∈ tables_1
theorem lw_p0 : lw_okq (⟨"TorsionDesk$FinitePoints", "meetsOnlyInZero", "(LTorsionDesk$Cubic;II)Z"⟩, 4) := ⟨⟨by decide +kernel, by decide +kernel⟩, List.mem_of_getElem? (i := 67) (by decide +kernel), List.mem_of_getElem? (i := 194) (by decide +kernel), List.mem_of_getElem? (i := 195) (by decide +kernel)⟩
theorem lw_p1 : lw_okq (⟨"TorsionDesk$FinitePoints", "isMultiple", "(LTorsionDesk$Cubic;II)Z"⟩, 4) := ⟨⟨by decide +kernel, by decide +kernel⟩, List.mem_of_getElem? (i := 67) (by decide +kernel), List.mem_of_getElem? (i := 199) (by decide +kernel), List.mem_of_getElem? (i := 200) (by decide +kernel)⟩
theorem lw_p2 : lw_okq (⟨"java/lang/Throwable", "fillInStackTrace", "(I)Ljava/lang/Throwable;"⟩, 6) := ⟨⟨by decide +kernel, by decide +kernel⟩, List.mem_of_getElem? (i := 281) (by decide +kernel), List.mem_of_getElem? (i := 279) (by decide +kernel), List.mem_of_getElem? (i := 280) (by decide +kernel)⟩
theorem lw_p3 : lw_okq (⟨"TorsionDesk$SquareDivisors", "append", "(I)V"⟩, 3) := ⟨⟨by decide +kernel, by decide +kernel⟩, List.mem_of_getElem? (i := 48) (by decide +kernel), List.mem_of_getElem? (i := 354) (by decide +kernel), List.mem_of_getElem? (i := 355) (by decide +kernel)⟩
theorem lw_p4 : lw_okq (⟨"TorsionDesk$FinitePoints", "collect", "(LTorsionDesk$Cubic;LTorsionDesk$SquareDivisors;)V"⟩, 4) := ⟨⟨by decide +kernel, by decide +kernel⟩, List.mem_of_getElem? (i := 67) (by decide +kernel), List.mem_of_getElem? (i := 362) (by decide +kernel), List.mem_of_getElem? (i := 363) (by decide +kernel)⟩
theorem lw_p5 : lw_okq (⟨"TorsionDesk$FinitePoints", "append", "(II)V"⟩, 4) := ⟨⟨by decide +kernel, by decide +kernel⟩, List.mem_of_getElem? (i := 67) (by decide +kernel), List.mem_of_getElem? (i := 366) (by decide +kernel), List.mem_of_getElem? (i := 367) (by decide +kernel)⟩
theorem lw_p6 : lw_okq (⟨"TorsionDesk$FinitePoints", "orderOf", "(LTorsionDesk$Cubic;I)I"⟩, 4) := ⟨⟨by decide +kernel, by decide +kernel⟩, List.mem_of_getElem? (i := 67) (by decide +kernel), List.mem_of_getElem? (i := 375) (by decide +kernel), List.mem_of_getElem? (i := 376) (by decide +kernel)⟩
theorem lw_p7 : lw_okq (⟨"TorsionDesk$FinitePoints", "keepFinite", "()V"⟩, 4) := ⟨⟨by decide +kernel, by decide +kernel⟩, List.mem_of_getElem? (i := 67) (by decide +kernel), List.mem_of_getElem? (i := 379) (by decide +kernel), List.mem_of_getElem? (i := 380) (by decide +kernel)⟩
theorem lw_p8 : lw_okq (⟨"TorsionDeskModel", "cubic", "(J)J"⟩, 20) := ⟨⟨by decide +kernel, by decide +kernel⟩, List.mem_of_getElem? (i := 412) (by decide +kernel), List.mem_of_getElem? (i := 496) (by decide +kernel), List.mem_of_getElem? (i := 497) (by decide +kernel)⟩
theorem lw_p9 : lw_okq (⟨"TorsionDeskModel", "take", "(II)V"⟩, 20) := ⟨⟨by decide +kernel, by decide +kernel⟩, List.mem_of_getElem? (i := 412) (by decide +kernel), List.mem_of_getElem? (i := 500) (by decide +kernel), List.mem_of_getElem? (i := 501) (by decide +kernel)⟩
theorem lw_p10 : lw_okq (⟨"TorsionDeskModel", "add", "(ZJJJJ)V"⟩, 20) := ⟨⟨by decide +kernel, by decide +kernel⟩, List.mem_of_getElem? (i := 412) (by decide +kernel), List.mem_of_getElem? (i := 504) (by decide +kernel), List.mem_of_getElem? (i := 505) (by decide +kernel)⟩
theorem lw_p11 : lw_okq (⟨"TorsionDeskModel", "structure", "()V"⟩, 20) := ⟨⟨by decide +kernel, by decide +kernel⟩, List.mem_of_getElem? (i := 412) (by decide +kernel), List.mem_of_getElem? (i := 516) (by decide +kernel), List.mem_of_getElem? (i := 517) (by decide +kernel)⟩
theorem lw_p12 : lw_okq (⟨"TorsionDeskModel", "makes", "(II)Z"⟩, 20) := ⟨⟨by decide +kernel, by decide +kernel⟩, List.mem_of_getElem? (i := 412) (by decide +kernel), List.mem_of_getElem? (i := 520) (by decide +kernel), List.mem_of_getElem? (i := 521) (by decide +kernel)⟩
theorem lw_p13 : lw_okq (⟨"TorsionDeskModel", "sumOf", "(II)I"⟩, 20) := ⟨⟨by decide +kernel, by decide +kernel⟩, List.mem_of_getElem? (i := 412) (by decide +kernel), List.mem_of_getElem? (i := 524) (by decide +kernel), List.mem_of_getElem? (i := 525) (by decide +kernel)⟩
theorem lw_p14 : lw_okq (⟨"TorsionDeskModel", "number", "(JJ)I"⟩, 20) := ⟨⟨by decide +kernel, by decide +kernel⟩, List.mem_of_getElem? (i := 412) (by decide +kernel), List.mem_of_getElem? (i := 528) (by decide +kernel), List.mem_of_getElem? (i := 529) (by decide +kernel)⟩
theorem lw_p15 : lw_okq (⟨"TorsionDeskModel", "isPoint", "(I)Z"⟩, 20) := ⟨⟨by decide +kernel, by decide +kernel⟩, List.mem_of_getElem? (i := 412) (by decide +kernel), List.mem_of_getElem? (i := 552) (by decide +kernel), List.mem_of_getElem? (i := 553) (by decide +kernel)⟩
def lw_privs_1 : List (MethodName × Nat) := [(⟨"TorsionDesk$FinitePoints", "meetsOnlyInZero", "(LTorsionDesk$Cubic;II)Z"⟩, 4), (⟨"TorsionDesk$FinitePoints", "isMultiple", "(LTorsionDesk$Cubic;II)Z"⟩, 4), (⟨"java/lang/Throwable", "fillInStackTrace", "(I)Ljava/lang/Throwable;"⟩, 6), (⟨"TorsionDesk$SquareDivisors", "append", "(I)V"⟩, 3), (⟨"TorsionDesk$FinitePoints", "collect", "(LTorsionDesk$Cubic;LTorsionDesk$SquareDivisors;)V"⟩, 4), (⟨"TorsionDesk$FinitePoints", "append", "(II)V"⟩, 4), (⟨"TorsionDesk$FinitePoints", "orderOf", "(LTorsionDesk$Cubic;I)I"⟩, 4), (⟨"TorsionDesk$FinitePoints", "keepFinite", "()V"⟩, 4), (⟨"TorsionDeskModel", "cubic", "(J)J"⟩, 20), (⟨"TorsionDeskModel", "take", "(II)V"⟩, 20), (⟨"TorsionDeskModel", "add", "(ZJJJJ)V"⟩, 20), (⟨"TorsionDeskModel", "structure", "()V"⟩, 20), (⟨"TorsionDeskModel", "makes", "(II)Z"⟩, 20), (⟨"TorsionDeskModel", "sumOf", "(II)I"⟩, 20), (⟨"TorsionDeskModel", "number", "(JJ)I"⟩, 20), (⟨"TorsionDeskModel", "isPoint", "(I)Z"⟩, 20)]
theorem lw_r1 : ∀ q ∈ lw_privs_1, lw_okq q := List.forall_mem_cons.mpr ⟨lw_p0, List.forall_mem_cons.mpr ⟨lw_p1, List.forall_mem_cons.mpr ⟨lw_p2, List.forall_mem_cons.mpr ⟨lw_p3, List.forall_mem_cons.mpr ⟨lw_p4, List.forall_mem_cons.mpr ⟨lw_p5, List.forall_mem_cons.mpr ⟨lw_p6, List.forall_mem_cons.mpr ⟨lw_p7, List.forall_mem_cons.mpr ⟨lw_p8, List.forall_mem_cons.mpr ⟨lw_p9, List.forall_mem_cons.mpr ⟨lw_p10, List.forall_mem_cons.mpr ⟨lw_p11, List.forall_mem_cons.mpr ⟨lw_p12, List.forall_mem_cons.mpr ⟨lw_p13, List.forall_mem_cons.mpr ⟨lw_p14, List.forall_mem_cons.mpr ⟨lw_p15, fun _ h => absurd h List.not_mem_nil⟩⟩⟩⟩⟩⟩⟩⟩⟩⟩⟩⟩⟩⟩⟩⟩
theorem lw_p16 : lw_okq (⟨"TorsionDeskModel", "multiple", "(II)I"⟩, 20) := ⟨⟨by decide +kernel, by decide +kernel⟩, List.mem_of_getElem? (i := 412) (by decide +kernel), List.mem_of_getElem? (i := 571) (by decide +kernel), List.mem_of_getElem? (i := 572) (by decide +kernel)⟩
theorem lw_p17 : lw_okq (⟨"TorsionDeskModel", "counted", "(I)I"⟩, 20) := ⟨⟨by decide +kernel, by decide +kernel⟩, List.mem_of_getElem? (i := 412) (by decide +kernel), List.mem_of_getElem? (i := 582) (by decide +kernel), List.mem_of_getElem? (i := 583) (by decide +kernel)⟩
def lw_privs_2 : List (MethodName × Nat) := [(⟨"TorsionDeskModel", "multiple", "(II)I"⟩, 20), (⟨"TorsionDeskModel", "counted", "(I)I"⟩, 20)]
theorem lw_r2 : ∀ q ∈ lw_privs_2, lw_okq q := List.forall_mem_cons.mpr ⟨lw_p16, List.forall_mem_cons.mpr ⟨lw_p17, fun _ h => absurd h List.not_mem_nil⟩⟩
def lw_privs : List (MethodName × Nat) := lw_privs_1 ++ (lw_privs_2)
def lw_tbl : List Cond := k2_sels lw_privs ++ tables_1
theorem lw_privs_ok : ∀ q ∈ lw_privs, lw_okq q := by
  show ∀ q ∈ lw_privs_1 ++ (lw_privs_2), lw_okq q
  exact List.forall_mem_append.mpr ⟨lw_r1, lw_r2⟩

def tX0 : u_T := fun k => match k with
  | 0 => ("TorsionDesk$Cubic", "square", "J", false)
  | 1 => ("TorsionDesk$Cubic", "linear", "J", false)
  | 2 => ("TorsionDesk$Cubic", "constant", "J", false)
  | 3 => ("TorsionDesk$Cubic", "discriminant", "J", false)
  | _ => ("TorsionDesk$Cubic", "rootCounts", "[I", true)
def yX0 : Nat → FieldType := fun k => match k with
  | 0 => .long
  | 1 => .long
  | 2 => .long
  | 3 => .long
  | _ => .array .int
theorem nX0 : ∀ a, a < 5 → ∀ b, b < 5 → a ≠ b → (tX0 a).2.1 ≠ (tX0 b).2.1 := by decide +kernel
theorem yX0_ok : ∀ k, k < 5 → parseFieldDescriptor (tX0 k).2.2.1 = some (yX0 k) := by decide +kernel
def tX1 : u_T := fun k => match k with
  | 0 => ("TorsionDesk$FinitePoints", "xs", "[I", true)
  | 1 => ("TorsionDesk$FinitePoints", "ys", "[I", true)
  | 2 => ("TorsionDesk$FinitePoints", "orders", "[I", true)
  | _ => ("TorsionDesk$FinitePoints", "size", "I", false)
def yX1 : Nat → FieldType := fun k => match k with
  | 0 => .array .int
  | 1 => .array .int
  | 2 => .array .int
  | _ => .int
theorem nX1 : ∀ a, a < 4 → ∀ b, b < 4 → a ≠ b → (tX1 a).2.1 ≠ (tX1 b).2.1 := by decide +kernel
theorem yX1_ok : ∀ k, k < 4 → parseFieldDescriptor (tX1 k).2.2.1 = some (yX1 k) := by decide +kernel
def tX2 : u_T := fun k => match k with
  | 0 => ("TorsionDesk$SquareDivisors", "row", "[I", true)
  | 1 => ("TorsionDesk$SquareDivisors", "size", "I", false)
  | _ => ("TorsionDesk$SquareDivisors", "largestSquare", "J", false)
def yX2 : Nat → FieldType := fun k => match k with
  | 0 => .array .int
  | 1 => .int
  | _ => .long
theorem nX2 : ∀ a, a < 3 → ∀ b, b < 3 → a ≠ b → (tX2 a).2.1 ≠ (tX2 b).2.1 := by decide +kernel
theorem yX2_ok : ∀ k, k < 3 → parseFieldDescriptor (tX2 k).2.2.1 = some (yX2 k) := by decide +kernel
def tX3 : u_T := fun k => match k with
  | 0 => ("TorsionDesk", "cubic", "LTorsionDesk$Cubic;", true)
  | 1 => ("TorsionDesk", "divisors", "LTorsionDesk$SquareDivisors;", true)
  | 2 => ("TorsionDesk", "finite", "LTorsionDesk$FinitePoints;", true)
  | 3 => ("TorsionDesk", "hasCurve", "Z", false)
  | 4 => ("TorsionDesk", "a", "I", false)
  | _ => ("TorsionDesk", "c", "I", false)
def yX3 : Nat → FieldType := fun k => match k with
  | 0 => .object "TorsionDesk$Cubic"
  | 1 => .object "TorsionDesk$SquareDivisors"
  | 2 => .object "TorsionDesk$FinitePoints"
  | 3 => .boolean
  | 4 => .int
  | _ => .int
theorem nX3 : ∀ a, a < 6 → ∀ b, b < 6 → a ≠ b → (tX3 a).2.1 ≠ (tX3 b).2.1 := by decide +kernel
theorem yX3_ok : ∀ k, k < 6 → parseFieldDescriptor (tX3 k).2.2.1 = some (yX3 k) := by decide +kernel
def tX4 : u_T := fun k => match k with
  | 0 => ("TorsionDeskModel", "thrown", "I", false)
  | 1 => ("TorsionDeskModel", "there", "Z", false)
  | 2 => ("TorsionDeskModel", "ca", "I", false)
  | 3 => ("TorsionDeskModel", "cc", "I", false)
  | 4 => ("TorsionDeskModel", "one", "J", false)
  | 5 => ("TorsionDeskModel", "two", "J", false)
  | 6 => ("TorsionDeskModel", "three", "J", false)
  | 7 => ("TorsionDeskModel", "disc", "J", false)
  | 8 => ("TorsionDeskModel", "points", "I", false)
  | 9 => ("TorsionDeskModel", "px", "[I", true)
  | 10 => ("TorsionDeskModel", "py", "[I", true)
  | 11 => ("TorsionDeskModel", "order", "[I", true)
  | 12 => ("TorsionDeskModel", "zero", "Z", false)
  | 13 => ("TorsionDeskModel", "whole", "Z", false)
  | 14 => ("TorsionDeskModel", "sx", "J", false)
  | 15 => ("TorsionDeskModel", "sy", "J", false)
  | 16 => ("TorsionDeskModel", "rows", "I", false)
  | 17 => ("TorsionDeskModel", "columns", "I", false)
  | 18 => ("TorsionDeskModel", "first", "I", false)
  | _ => ("TorsionDeskModel", "second", "I", false)
def yX4 : Nat → FieldType := fun k => match k with
  | 0 => .int
  | 1 => .boolean
  | 2 => .int
  | 3 => .int
  | 4 => .long
  | 5 => .long
  | 6 => .long
  | 7 => .long
  | 8 => .int
  | 9 => .array .int
  | 10 => .array .int
  | 11 => .array .int
  | 12 => .boolean
  | 13 => .boolean
  | 14 => .long
  | 15 => .long
  | 16 => .int
  | 17 => .int
  | 18 => .int
  | _ => .int
theorem nX4 : ∀ a, a < 20 → ∀ b, b < 20 → a ≠ b → (tX4 a).2.1 ≠ (tX4 b).2.1 := by decide +kernel
theorem yX4_ok : ∀ k, k < 20 → parseFieldDescriptor (tX4 k).2.2.1 = some (yX4 k) := by decide +kernel
abbrev vwCl : List vw_C := [("TorsionDesk$Cubic", tX0, 5), ("TorsionDesk$FinitePoints", tX1, 4), ("TorsionDesk$SquareDivisors", tX2, 3), ("TorsionDesk", tX3, 6), ("TorsionDeskModel", tX4, 20)]
/-- all words of the tables that stay true -/
def zB : List Cond := lw_tbl.filter goodWord
theorem zB_in {w : Cond} (h : w ∈ zB) : w ∈ lw_tbl ∧ goodWord w = true := List.mem_filter.mp h
theorem zB_good {w : Cond} (h : w ∈ zB) : (w.onTables && w.keeps) = true ∨ ∃ ty, w = .arrayClass ty := good_of_word (zB_in h).2
theorem zB1 {w : Cond} (h : w ∈ tables_1) (g : goodWord w = true) : w ∈ zB := List.mem_filter.mpr ⟨List.mem_append_right _ h, g⟩
theorem zB2 {w : Cond} (h : w ∈ k2_sels lw_privs) (g : goodWord w = true) : w ∈ zB := List.mem_filter.mpr ⟨List.mem_append_left _ h, g⟩
theorem zGo {ws : List Cond} (h : ∀ w ∈ ws, w ∈ zB) : GoodIn zB ws := fun w hw => ⟨h w hw, zB_good (h w hw)⟩
theorem zgV {own C : String} {idx maxL : Nat} {y : MethodName} {c : ByteArray} {ret : Option FieldType} (h1 : Cond.methodLink own idx y ∈ zB) (h2 : Cond.instanceMethod y ∈ zB) (h3 : Cond.selects C y y ∈ zB) (h4 : Cond.initialized C ∈ zB) (h5 : Cond.code y c maxL ret ∈ zB) : GoodIn zB (wsV own idx C y (Cond.code y c maxL ret :: zB)) := by
  refine zGo fun w hw => ?_
  simp only [wsV, List.cons_append, List.nil_append, List.mem_cons] at hw
  rcases hw with rfl | rfl | rfl | rfl | rfl | hw
  · exact h1
  · exact h2
  · exact h3
  · exact h4
  · exact h5
  · exact hw
theorem zgS {own : String} {idx maxL : Nat} {y : MethodName} {c : ByteArray} {ret : Option FieldType} (h1 : Cond.methodLink own idx y ∈ zB) (h2 : Cond.static y ∈ zB) (h4 : Cond.initialized y.cls ∈ zB) (h5 : Cond.code y c maxL ret ∈ zB) : GoodIn zB (va_wsS own idx y (Cond.code y c maxL ret :: zB)) := by
  refine zGo fun w hw => ?_
  simp only [va_wsS, List.cons_append, List.nil_append, List.mem_cons] at hw
  rcases hw with rfl | rfl | rfl | rfl | hw
  · exact h1
  · exact h2
  · exact h4
  · exact h5
  · exact hw
abbrev c_cu_discriminantOf : ByteArray := prog_2_method_2_code
def y_cu_discriminantOf : MethodName := { cls := "TorsionDesk$Cubic", name := "discriminantOf", desc := "(JJJ)J" }
abbrev zs_cu_discriminantOf : List Cond := Cond.code y_cu_discriminantOf c_cu_discriminantOf 6 (some .long) :: zB
theorem d_cu_discriminantOf_0 : decode c_cu_discriminantOf 0 = .ok (.lload_n 0, 1) := by decide +kernel
theorem d_cu_discriminantOf_1 : decode c_cu_discriminantOf 1 = .ok (.lload_n 0, 1) := by decide +kernel
theorem d_cu_discriminantOf_2 : decode c_cu_discriminantOf 2 = .ok (.lmul, 1) := by decide +kernel
theorem d_cu_discriminantOf_3 : decode c_cu_discriminantOf 3 = .ok (.lload_n 2, 1) := by decide +kernel
theorem d_cu_discriminantOf_4 : decode c_cu_discriminantOf 4 = .ok (.lmul, 1) := by decide +kernel
theorem d_cu_discriminantOf_5 : decode c_cu_discriminantOf 5 = .ok (.lload_n 2, 1) := by decide +kernel
theorem d_cu_discriminantOf_6 : decode c_cu_discriminantOf 6 = .ok (.lmul, 1) := by decide +kernel
theorem d_cu_discriminantOf_7 : decode c_cu_discriminantOf 7 = .ok (.ldc2_w 15, 3) := by decide +kernel
theorem d_cu_discriminantOf_10 : decode c_cu_discriminantOf 10 = .ok (.lload_n 2, 1) := by decide +kernel
theorem d_cu_discriminantOf_11 : decode c_cu_discriminantOf 11 = .ok (.lmul, 1) := by decide +kernel
theorem d_cu_discriminantOf_12 : decode c_cu_discriminantOf 12 = .ok (.lload_n 2, 1) := by decide +kernel
theorem d_cu_discriminantOf_13 : decode c_cu_discriminantOf 13 = .ok (.lmul, 1) := by decide +kernel
theorem d_cu_discriminantOf_14 : decode c_cu_discriminantOf 14 = .ok (.lload_n 2, 1) := by decide +kernel
theorem d_cu_discriminantOf_15 : decode c_cu_discriminantOf 15 = .ok (.lmul, 1) := by decide +kernel
theorem d_cu_discriminantOf_16 : decode c_cu_discriminantOf 16 = .ok (.lsub, 1) := by decide +kernel
theorem d_cu_discriminantOf_17 : decode c_cu_discriminantOf 17 = .ok (.ldc2_w 15, 3) := by decide +kernel
theorem d_cu_discriminantOf_20 : decode c_cu_discriminantOf 20 = .ok (.lload_n 0, 1) := by decide +kernel
theorem d_cu_discriminantOf_21 : decode c_cu_discriminantOf 21 = .ok (.lmul, 1) := by decide +kernel
theorem d_cu_discriminantOf_22 : decode c_cu_discriminantOf 22 = .ok (.lload_n 0, 1) := by decide +kernel
theorem d_cu_discriminantOf_23 : decode c_cu_discriminantOf 23 = .ok (.lmul, 1) := by decide +kernel
theorem d_cu_discriminantOf_24 : decode c_cu_discriminantOf 24 = .ok (.lload_n 0, 1) := by decide +kernel
theorem d_cu_discriminantOf_25 : decode c_cu_discriminantOf 25 = .ok (.lmul, 1) := by decide +kernel
theorem d_cu_discriminantOf_26 : decode c_cu_discriminantOf 26 = .ok (.lload 4, 2) := by decide +kernel
theorem d_cu_discriminantOf_28 : decode c_cu_discriminantOf 28 = .ok (.lmul, 1) := by decide +kernel
theorem d_cu_discriminantOf_29 : decode c_cu_discriminantOf 29 = .ok (.lsub, 1) := by decide +kernel
theorem d_cu_discriminantOf_30 : decode c_cu_discriminantOf 30 = .ok (.ldc2_w 17, 3) := by decide +kernel
theorem d_cu_discriminantOf_33 : decode c_cu_discriminantOf 33 = .ok (.lload 4, 2) := by decide +kernel
theorem d_cu_discriminantOf_35 : decode c_cu_discriminantOf 35 = .ok (.lmul, 1) := by decide +kernel
theorem d_cu_discriminantOf_36 : decode c_cu_discriminantOf 36 = .ok (.lload 4, 2) := by decide +kernel
theorem d_cu_discriminantOf_38 : decode c_cu_discriminantOf 38 = .ok (.lmul, 1) := by decide +kernel
theorem d_cu_discriminantOf_39 : decode c_cu_discriminantOf 39 = .ok (.lsub, 1) := by decide +kernel
theorem d_cu_discriminantOf_40 : decode c_cu_discriminantOf 40 = .ok (.ldc2_w 19, 3) := by decide +kernel
theorem d_cu_discriminantOf_43 : decode c_cu_discriminantOf 43 = .ok (.lload_n 0, 1) := by decide +kernel
theorem d_cu_discriminantOf_44 : decode c_cu_discriminantOf 44 = .ok (.lmul, 1) := by decide +kernel
theorem d_cu_discriminantOf_45 : decode c_cu_discriminantOf 45 = .ok (.lload_n 2, 1) := by decide +kernel
theorem d_cu_discriminantOf_46 : decode c_cu_discriminantOf 46 = .ok (.lmul, 1) := by decide +kernel
theorem d_cu_discriminantOf_47 : decode c_cu_discriminantOf 47 = .ok (.lload 4, 2) := by decide +kernel
theorem d_cu_discriminantOf_49 : decode c_cu_discriminantOf 49 = .ok (.lmul, 1) := by decide +kernel
theorem d_cu_discriminantOf_50 : decode c_cu_discriminantOf 50 = .ok (.ladd, 1) := by decide +kernel
theorem d_cu_discriminantOf_51 : decode c_cu_discriminantOf 51 = .ok (.lreturn, 1) := by decide +kernel
abbrev c_cu_valueAt : ByteArray := prog_2_method_4_code
def y_cu_valueAt : MethodName := { cls := "TorsionDesk$Cubic", name := "valueAt", desc := "(J)J" }
abbrev zs_cu_valueAt : List Cond := Cond.code y_cu_valueAt c_cu_valueAt 3 (some .long) :: zB
theorem d_cu_valueAt_0 : decode c_cu_valueAt 0 = .ok (.lload_n 1, 1) := by decide +kernel
theorem d_cu_valueAt_1 : decode c_cu_valueAt 1 = .ok (.aload_n 0, 1) := by decide +kernel
theorem d_cu_valueAt_2 : decode c_cu_valueAt 2 = .ok (.getfield 21, 3) := by decide +kernel
theorem d_cu_valueAt_5 : decode c_cu_valueAt 5 = .ok (.ladd, 1) := by decide +kernel
theorem d_cu_valueAt_6 : decode c_cu_valueAt 6 = .ok (.lload_n 1, 1) := by decide +kernel
theorem d_cu_valueAt_7 : decode c_cu_valueAt 7 = .ok (.lmul, 1) := by decide +kernel
theorem d_cu_valueAt_8 : decode c_cu_valueAt 8 = .ok (.aload_n 0, 1) := by decide +kernel
theorem d_cu_valueAt_9 : decode c_cu_valueAt 9 = .ok (.getfield 25, 3) := by decide +kernel
theorem d_cu_valueAt_12 : decode c_cu_valueAt 12 = .ok (.ladd, 1) := by decide +kernel
theorem d_cu_valueAt_13 : decode c_cu_valueAt 13 = .ok (.lload_n 1, 1) := by decide +kernel
theorem d_cu_valueAt_14 : decode c_cu_valueAt 14 = .ok (.lmul, 1) := by decide +kernel
theorem d_cu_valueAt_15 : decode c_cu_valueAt 15 = .ok (.aload_n 0, 1) := by decide +kernel
theorem d_cu_valueAt_16 : decode c_cu_valueAt 16 = .ok (.getfield 28, 3) := by decide +kernel
theorem d_cu_valueAt_19 : decode c_cu_valueAt 19 = .ok (.ladd, 1) := by decide +kernel
theorem d_cu_valueAt_20 : decode c_cu_valueAt 20 = .ok (.lreturn, 1) := by decide +kernel
abbrev c_cu_steepnessAt : ByteArray := prog_2_method_5_code
def y_cu_steepnessAt : MethodName := { cls := "TorsionDesk$Cubic", name := "steepnessAt", desc := "(J)J" }
abbrev zs_cu_steepnessAt : List Cond := Cond.code y_cu_steepnessAt c_cu_steepnessAt 3 (some .long) :: zB
theorem d_cu_steepnessAt_0 : decode c_cu_steepnessAt 0 = .ok (.ldc2_w 38, 3) := by decide +kernel
theorem d_cu_steepnessAt_3 : decode c_cu_steepnessAt 3 = .ok (.lload_n 1, 1) := by decide +kernel
theorem d_cu_steepnessAt_4 : decode c_cu_steepnessAt 4 = .ok (.lmul, 1) := by decide +kernel
theorem d_cu_steepnessAt_5 : decode c_cu_steepnessAt 5 = .ok (.ldc2_w 40, 3) := by decide +kernel
theorem d_cu_steepnessAt_8 : decode c_cu_steepnessAt 8 = .ok (.aload_n 0, 1) := by decide +kernel
theorem d_cu_steepnessAt_9 : decode c_cu_steepnessAt 9 = .ok (.getfield 21, 3) := by decide +kernel
theorem d_cu_steepnessAt_12 : decode c_cu_steepnessAt 12 = .ok (.lmul, 1) := by decide +kernel
theorem d_cu_steepnessAt_13 : decode c_cu_steepnessAt 13 = .ok (.ladd, 1) := by decide +kernel
theorem d_cu_steepnessAt_14 : decode c_cu_steepnessAt 14 = .ok (.lload_n 1, 1) := by decide +kernel
theorem d_cu_steepnessAt_15 : decode c_cu_steepnessAt 15 = .ok (.lmul, 1) := by decide +kernel
theorem d_cu_steepnessAt_16 : decode c_cu_steepnessAt 16 = .ok (.aload_n 0, 1) := by decide +kernel
theorem d_cu_steepnessAt_17 : decode c_cu_steepnessAt 17 = .ok (.getfield 25, 3) := by decide +kernel
theorem d_cu_steepnessAt_20 : decode c_cu_steepnessAt 20 = .ok (.ladd, 1) := by decide +kernel
theorem d_cu_steepnessAt_21 : decode c_cu_steepnessAt 21 = .ok (.lreturn, 1) := by decide +kernel
abbrev c_cu_isGoodFor : ByteArray := prog_2_method_6_code
def y_cu_isGoodFor : MethodName := { cls := "TorsionDesk$Cubic", name := "isGoodFor", desc := "(I)Z" }
abbrev zs_cu_isGoodFor : List Cond := Cond.code y_cu_isGoodFor c_cu_isGoodFor 2 (some .boolean) :: zB
theorem d_cu_isGoodFor_0 : decode c_cu_isGoodFor 0 = .ok (.iload_n 1, 1) := by decide +kernel
theorem d_cu_isGoodFor_1 : decode c_cu_isGoodFor 1 = .ok (.ifCond .le 19, 3) := by decide +kernel
theorem d_cu_isGoodFor_4 : decode c_cu_isGoodFor 4 = .ok (.aload_n 0, 1) := by decide +kernel
theorem d_cu_isGoodFor_5 : decode c_cu_isGoodFor 5 = .ok (.getfield 35, 3) := by decide +kernel
theorem d_cu_isGoodFor_8 : decode c_cu_isGoodFor 8 = .ok (.iload_n 1, 1) := by decide +kernel
theorem d_cu_isGoodFor_9 : decode c_cu_isGoodFor 9 = .ok (.i2l, 1) := by decide +kernel
theorem d_cu_isGoodFor_10 : decode c_cu_isGoodFor 10 = .ok (.lrem, 1) := by decide +kernel
theorem d_cu_isGoodFor_11 : decode c_cu_isGoodFor 11 = .ok (.lconst 0, 1) := by decide +kernel
theorem d_cu_isGoodFor_12 : decode c_cu_isGoodFor 12 = .ok (.lcmp, 1) := by decide +kernel
theorem d_cu_isGoodFor_13 : decode c_cu_isGoodFor 13 = .ok (.ifCond .eq 7, 3) := by decide +kernel
theorem d_cu_isGoodFor_16 : decode c_cu_isGoodFor 16 = .ok (.iconst 1, 1) := by decide +kernel
theorem d_cu_isGoodFor_17 : decode c_cu_isGoodFor 17 = .ok (.goto 4, 3) := by decide +kernel
theorem d_cu_isGoodFor_20 : decode c_cu_isGoodFor 20 = .ok (.iconst 0, 1) := by decide +kernel
theorem d_cu_isGoodFor_21 : decode c_cu_isGoodFor 21 = .ok (.ireturn, 1) := by decide +kernel
abbrev c_cu_become : ByteArray := prog_2_method_3_code
def y_cu_become : MethodName := { cls := "TorsionDesk$Cubic", name := "become", desc := "(JJJ)V" }
abbrev zs_cu_become : List Cond := Cond.code y_cu_become c_cu_become 7 none :: zB
theorem d_cu_become_0 : decode c_cu_become 0 = .ok (.aload_n 0, 1) := by decide +kernel
theorem d_cu_become_1 : decode c_cu_become 1 = .ok (.lload_n 1, 1) := by decide +kernel
theorem d_cu_become_2 : decode c_cu_become 2 = .ok (.putfield 21, 3) := by decide +kernel
theorem d_cu_become_5 : decode c_cu_become 5 = .ok (.aload_n 0, 1) := by decide +kernel
theorem d_cu_become_6 : decode c_cu_become 6 = .ok (.lload_n 3, 1) := by decide +kernel
theorem d_cu_become_7 : decode c_cu_become 7 = .ok (.putfield 25, 3) := by decide +kernel
theorem d_cu_become_10 : decode c_cu_become 10 = .ok (.aload_n 0, 1) := by decide +kernel
theorem d_cu_become_11 : decode c_cu_become 11 = .ok (.lload 5, 2) := by decide +kernel
theorem d_cu_become_13 : decode c_cu_become 13 = .ok (.putfield 28, 3) := by decide +kernel
theorem d_cu_become_16 : decode c_cu_become 16 = .ok (.aload_n 0, 1) := by decide +kernel
theorem d_cu_become_17 : decode c_cu_become 17 = .ok (.lload_n 1, 1) := by decide +kernel
theorem d_cu_become_18 : decode c_cu_become 18 = .ok (.lload_n 3, 1) := by decide +kernel
theorem d_cu_become_19 : decode c_cu_become 19 = .ok (.lload 5, 2) := by decide +kernel
theorem d_cu_become_21 : decode c_cu_become 21 = .ok (.invokestatic 31, 3) := by decide +kernel
theorem d_cu_become_24 : decode c_cu_become 24 = .ok (.putfield 35, 3) := by decide +kernel
theorem d_cu_become_27 : decode c_cu_become 27 = .ok (.return_, 1) := by decide +kernel
abbrev c_fp_has : ByteArray := prog_3_method_2_code
def y_fp_has : MethodName := { cls := "TorsionDesk$FinitePoints", name := "has", desc := "(I)Z" }
abbrev zs_fp_has : List Cond := Cond.code y_fp_has c_fp_has 2 (some .boolean) :: zB
theorem d_fp_has_0 : decode c_fp_has 0 = .ok (.iload_n 1, 1) := by decide +kernel
theorem d_fp_has_1 : decode c_fp_has 1 = .ok (.ifCond .lt 15, 3) := by decide +kernel
theorem d_fp_has_4 : decode c_fp_has 4 = .ok (.iload_n 1, 1) := by decide +kernel
theorem d_fp_has_5 : decode c_fp_has 5 = .ok (.aload_n 0, 1) := by decide +kernel
theorem d_fp_has_6 : decode c_fp_has 6 = .ok (.getfield 21, 3) := by decide +kernel
theorem d_fp_has_9 : decode c_fp_has 9 = .ok (.if_icmp .ge 7, 3) := by decide +kernel
theorem d_fp_has_12 : decode c_fp_has 12 = .ok (.iconst 1, 1) := by decide +kernel
theorem d_fp_has_13 : decode c_fp_has 13 = .ok (.goto 4, 3) := by decide +kernel
theorem d_fp_has_16 : decode c_fp_has 16 = .ok (.iconst 0, 1) := by decide +kernel
theorem d_fp_has_17 : decode c_fp_has 17 = .ok (.ireturn, 1) := by decide +kernel
abbrev c_fp_numberOf : ByteArray := prog_3_method_8_code
def y_fp_numberOf : MethodName := { cls := "TorsionDesk$FinitePoints", name := "numberOf", desc := "(JJ)I" }
abbrev zs_fp_numberOf : List Cond := Cond.code y_fp_numberOf c_fp_numberOf 6 (some .int) :: zB
theorem d_fp_numberOf_0 : decode c_fp_numberOf 0 = .ok (.iconst 1, 1) := by decide +kernel
theorem d_fp_numberOf_1 : decode c_fp_numberOf 1 = .ok (.istore 5, 2) := by decide +kernel
theorem d_fp_numberOf_3 : decode c_fp_numberOf 3 = .ok (.iload 5, 2) := by decide +kernel
theorem d_fp_numberOf_5 : decode c_fp_numberOf 5 = .ok (.aload_n 0, 1) := by decide +kernel
theorem d_fp_numberOf_6 : decode c_fp_numberOf 6 = .ok (.getfield 21, 3) := by decide +kernel
theorem d_fp_numberOf_9 : decode c_fp_numberOf 9 = .ok (.if_icmp .ge 38, 3) := by decide +kernel
theorem d_fp_numberOf_12 : decode c_fp_numberOf 12 = .ok (.aload_n 0, 1) := by decide +kernel
theorem d_fp_numberOf_13 : decode c_fp_numberOf 13 = .ok (.getfield 11, 3) := by decide +kernel
theorem d_fp_numberOf_16 : decode c_fp_numberOf 16 = .ok (.iload 5, 2) := by decide +kernel
theorem d_fp_numberOf_18 : decode c_fp_numberOf 18 = .ok (.iaload, 1) := by decide +kernel
theorem d_fp_numberOf_19 : decode c_fp_numberOf 19 = .ok (.i2l, 1) := by decide +kernel
theorem d_fp_numberOf_20 : decode c_fp_numberOf 20 = .ok (.lload_n 1, 1) := by decide +kernel
theorem d_fp_numberOf_21 : decode c_fp_numberOf 21 = .ok (.lcmp, 1) := by decide +kernel
theorem d_fp_numberOf_22 : decode c_fp_numberOf 22 = .ok (.ifCond .ne 19, 3) := by decide +kernel
theorem d_fp_numberOf_25 : decode c_fp_numberOf 25 = .ok (.aload_n 0, 1) := by decide +kernel
theorem d_fp_numberOf_26 : decode c_fp_numberOf 26 = .ok (.getfield 15, 3) := by decide +kernel
theorem d_fp_numberOf_29 : decode c_fp_numberOf 29 = .ok (.iload 5, 2) := by decide +kernel
theorem d_fp_numberOf_31 : decode c_fp_numberOf 31 = .ok (.iaload, 1) := by decide +kernel
theorem d_fp_numberOf_32 : decode c_fp_numberOf 32 = .ok (.i2l, 1) := by decide +kernel
theorem d_fp_numberOf_33 : decode c_fp_numberOf 33 = .ok (.lload_n 3, 1) := by decide +kernel
theorem d_fp_numberOf_34 : decode c_fp_numberOf 34 = .ok (.lcmp, 1) := by decide +kernel
theorem d_fp_numberOf_35 : decode c_fp_numberOf 35 = .ok (.ifCond .ne 6, 3) := by decide +kernel
theorem d_fp_numberOf_38 : decode c_fp_numberOf 38 = .ok (.iload 5, 2) := by decide +kernel
theorem d_fp_numberOf_40 : decode c_fp_numberOf 40 = .ok (.ireturn, 1) := by decide +kernel
theorem d_fp_numberOf_41 : decode c_fp_numberOf 41 = .ok (.iinc 5 1, 3) := by decide +kernel
theorem d_fp_numberOf_44 : decode c_fp_numberOf 44 = .ok (.goto (-41), 3) := by decide +kernel
theorem d_fp_numberOf_47 : decode c_fp_numberOf 47 = .ok (.iconst (-1), 1) := by decide +kernel
theorem d_fp_numberOf_48 : decode c_fp_numberOf 48 = .ok (.ireturn, 1) := by decide +kernel
abbrev c_fp_added : ByteArray := prog_3_method_9_code
def y_fp_added : MethodName := { cls := "TorsionDesk$FinitePoints", name := "added", desc := "(LTorsionDesk$Cubic;II)I" }
abbrev zs_fp_added : List Cond := Cond.code y_fp_added c_fp_added 17 (some .int) :: zB
theorem d_fp_added_0 : decode c_fp_added 0 = .ok (.aload_n 0, 1) := by decide +kernel
theorem d_fp_added_1 : decode c_fp_added 1 = .ok (.iload_n 2, 1) := by decide +kernel
theorem d_fp_added_2 : decode c_fp_added 2 = .ok (.invokevirtual 60, 3) := by decide +kernel
theorem d_fp_added_5 : decode c_fp_added 5 = .ok (.ifCond .eq 11, 3) := by decide +kernel
theorem d_fp_added_8 : decode c_fp_added 8 = .ok (.aload_n 0, 1) := by decide +kernel
theorem d_fp_added_9 : decode c_fp_added 9 = .ok (.iload_n 3, 1) := by decide +kernel
theorem d_fp_added_10 : decode c_fp_added 10 = .ok (.invokevirtual 60, 3) := by decide +kernel
theorem d_fp_added_13 : decode c_fp_added 13 = .ok (.ifCond .ne 5, 3) := by decide +kernel
theorem d_fp_added_16 : decode c_fp_added 16 = .ok (.iconst (-1), 1) := by decide +kernel
theorem d_fp_added_17 : decode c_fp_added 17 = .ok (.ireturn, 1) := by decide +kernel
theorem d_fp_added_18 : decode c_fp_added 18 = .ok (.iload_n 2, 1) := by decide +kernel
theorem d_fp_added_19 : decode c_fp_added 19 = .ok (.ifCond .eq 7, 3) := by decide +kernel
theorem d_fp_added_22 : decode c_fp_added 22 = .ok (.iload_n 3, 1) := by decide +kernel
theorem d_fp_added_23 : decode c_fp_added 23 = .ok (.ifCond .ne 7, 3) := by decide +kernel
theorem d_fp_added_26 : decode c_fp_added 26 = .ok (.iload_n 2, 1) := by decide +kernel
theorem d_fp_added_27 : decode c_fp_added 27 = .ok (.iload_n 3, 1) := by decide +kernel
theorem d_fp_added_28 : decode c_fp_added 28 = .ok (.iadd, 1) := by decide +kernel
theorem d_fp_added_29 : decode c_fp_added 29 = .ok (.ireturn, 1) := by decide +kernel
theorem d_fp_added_30 : decode c_fp_added 30 = .ok (.aload_n 0, 1) := by decide +kernel
theorem d_fp_added_31 : decode c_fp_added 31 = .ok (.getfield 11, 3) := by decide +kernel
theorem d_fp_added_34 : decode c_fp_added 34 = .ok (.iload_n 2, 1) := by decide +kernel
theorem d_fp_added_35 : decode c_fp_added 35 = .ok (.iaload, 1) := by decide +kernel
theorem d_fp_added_36 : decode c_fp_added 36 = .ok (.i2l, 1) := by decide +kernel
theorem d_fp_added_37 : decode c_fp_added 37 = .ok (.lstore 4, 2) := by decide +kernel
theorem d_fp_added_39 : decode c_fp_added 39 = .ok (.aload_n 0, 1) := by decide +kernel
theorem d_fp_added_40 : decode c_fp_added 40 = .ok (.getfield 15, 3) := by decide +kernel
theorem d_fp_added_43 : decode c_fp_added 43 = .ok (.iload_n 2, 1) := by decide +kernel
theorem d_fp_added_44 : decode c_fp_added 44 = .ok (.iaload, 1) := by decide +kernel
theorem d_fp_added_45 : decode c_fp_added 45 = .ok (.i2l, 1) := by decide +kernel
theorem d_fp_added_46 : decode c_fp_added 46 = .ok (.lstore 6, 2) := by decide +kernel
theorem d_fp_added_48 : decode c_fp_added 48 = .ok (.aload_n 0, 1) := by decide +kernel
theorem d_fp_added_49 : decode c_fp_added 49 = .ok (.getfield 11, 3) := by decide +kernel
theorem d_fp_added_52 : decode c_fp_added 52 = .ok (.iload_n 3, 1) := by decide +kernel
theorem d_fp_added_53 : decode c_fp_added 53 = .ok (.iaload, 1) := by decide +kernel
theorem d_fp_added_54 : decode c_fp_added 54 = .ok (.i2l, 1) := by decide +kernel
theorem d_fp_added_55 : decode c_fp_added 55 = .ok (.lload 4, 2) := by decide +kernel
theorem d_fp_added_57 : decode c_fp_added 57 = .ok (.lcmp, 1) := by decide +kernel
theorem d_fp_added_58 : decode c_fp_added 58 = .ok (.ifCond .ne 7, 3) := by decide +kernel
theorem d_fp_added_61 : decode c_fp_added 61 = .ok (.iconst 1, 1) := by decide +kernel
theorem d_fp_added_62 : decode c_fp_added 62 = .ok (.goto 4, 3) := by decide +kernel
theorem d_fp_added_65 : decode c_fp_added 65 = .ok (.iconst 0, 1) := by decide +kernel
theorem d_fp_added_66 : decode c_fp_added 66 = .ok (.istore 8, 2) := by decide +kernel
theorem d_fp_added_68 : decode c_fp_added 68 = .ok (.iload 8, 2) := by decide +kernel
theorem d_fp_added_70 : decode c_fp_added 70 = .ok (.ifCond .eq 19, 3) := by decide +kernel
theorem d_fp_added_73 : decode c_fp_added 73 = .ok (.aload_n 0, 1) := by decide +kernel
theorem d_fp_added_74 : decode c_fp_added 74 = .ok (.getfield 15, 3) := by decide +kernel
theorem d_fp_added_77 : decode c_fp_added 77 = .ok (.iload_n 3, 1) := by decide +kernel
theorem d_fp_added_78 : decode c_fp_added 78 = .ok (.iaload, 1) := by decide +kernel
theorem d_fp_added_79 : decode c_fp_added 79 = .ok (.i2l, 1) := by decide +kernel
theorem d_fp_added_80 : decode c_fp_added 80 = .ok (.lload 6, 2) := by decide +kernel
theorem d_fp_added_82 : decode c_fp_added 82 = .ok (.lneg, 1) := by decide +kernel
theorem d_fp_added_83 : decode c_fp_added 83 = .ok (.lcmp, 1) := by decide +kernel
theorem d_fp_added_84 : decode c_fp_added 84 = .ok (.ifCond .ne 5, 3) := by decide +kernel
theorem d_fp_added_87 : decode c_fp_added 87 = .ok (.iconst 0, 1) := by decide +kernel
theorem d_fp_added_88 : decode c_fp_added 88 = .ok (.ireturn, 1) := by decide +kernel
theorem d_fp_added_89 : decode c_fp_added 89 = .ok (.iload 8, 2) := by decide +kernel
theorem d_fp_added_91 : decode c_fp_added 91 = .ok (.ifCond .eq 12, 3) := by decide +kernel
theorem d_fp_added_94 : decode c_fp_added 94 = .ok (.aload_n 1, 1) := by decide +kernel
theorem d_fp_added_95 : decode c_fp_added 95 = .ok (.lload 4, 2) := by decide +kernel
theorem d_fp_added_97 : decode c_fp_added 97 = .ok (.invokevirtual 64, 3) := by decide +kernel
theorem d_fp_added_100 : decode c_fp_added 100 = .ok (.goto 13, 3) := by decide +kernel
theorem d_fp_added_103 : decode c_fp_added 103 = .ok (.aload_n 0, 1) := by decide +kernel
theorem d_fp_added_104 : decode c_fp_added 104 = .ok (.getfield 15, 3) := by decide +kernel
theorem d_fp_added_107 : decode c_fp_added 107 = .ok (.iload_n 3, 1) := by decide +kernel
theorem d_fp_added_108 : decode c_fp_added 108 = .ok (.iaload, 1) := by decide +kernel
theorem d_fp_added_109 : decode c_fp_added 109 = .ok (.i2l, 1) := by decide +kernel
theorem d_fp_added_110 : decode c_fp_added 110 = .ok (.lload 6, 2) := by decide +kernel
theorem d_fp_added_112 : decode c_fp_added 112 = .ok (.lsub, 1) := by decide +kernel
theorem d_fp_added_113 : decode c_fp_added 113 = .ok (.lstore 9, 2) := by decide +kernel
theorem d_fp_added_115 : decode c_fp_added 115 = .ok (.iload 8, 2) := by decide +kernel
theorem d_fp_added_117 : decode c_fp_added 117 = .ok (.ifCond .eq 12, 3) := by decide +kernel
theorem d_fp_added_120 : decode c_fp_added 120 = .ok (.ldc2_w 67, 3) := by decide +kernel
theorem d_fp_added_123 : decode c_fp_added 123 = .ok (.lload 6, 2) := by decide +kernel
theorem d_fp_added_125 : decode c_fp_added 125 = .ok (.lmul, 1) := by decide +kernel
theorem d_fp_added_126 : decode c_fp_added 126 = .ok (.goto 13, 3) := by decide +kernel
theorem d_fp_added_129 : decode c_fp_added 129 = .ok (.aload_n 0, 1) := by decide +kernel
theorem d_fp_added_130 : decode c_fp_added 130 = .ok (.getfield 11, 3) := by decide +kernel
theorem d_fp_added_133 : decode c_fp_added 133 = .ok (.iload_n 3, 1) := by decide +kernel
theorem d_fp_added_134 : decode c_fp_added 134 = .ok (.iaload, 1) := by decide +kernel
theorem d_fp_added_135 : decode c_fp_added 135 = .ok (.i2l, 1) := by decide +kernel
theorem d_fp_added_136 : decode c_fp_added 136 = .ok (.lload 4, 2) := by decide +kernel
theorem d_fp_added_138 : decode c_fp_added 138 = .ok (.lsub, 1) := by decide +kernel
theorem d_fp_added_139 : decode c_fp_added 139 = .ok (.lstore 11, 2) := by decide +kernel
theorem d_fp_added_141 : decode c_fp_added 141 = .ok (.lload 11, 2) := by decide +kernel
theorem d_fp_added_143 : decode c_fp_added 143 = .ok (.lconst 0, 1) := by decide +kernel
theorem d_fp_added_144 : decode c_fp_added 144 = .ok (.lcmp, 1) := by decide +kernel
theorem d_fp_added_145 : decode c_fp_added 145 = .ok (.ifCond .eq 13, 3) := by decide +kernel
theorem d_fp_added_148 : decode c_fp_added 148 = .ok (.lload 9, 2) := by decide +kernel
theorem d_fp_added_150 : decode c_fp_added 150 = .ok (.lload 11, 2) := by decide +kernel
theorem d_fp_added_152 : decode c_fp_added 152 = .ok (.lrem, 1) := by decide +kernel
theorem d_fp_added_153 : decode c_fp_added 153 = .ok (.lconst 0, 1) := by decide +kernel
theorem d_fp_added_154 : decode c_fp_added 154 = .ok (.lcmp, 1) := by decide +kernel
theorem d_fp_added_155 : decode c_fp_added 155 = .ok (.ifCond .eq 5, 3) := by decide +kernel
theorem d_fp_added_158 : decode c_fp_added 158 = .ok (.iconst (-1), 1) := by decide +kernel
theorem d_fp_added_159 : decode c_fp_added 159 = .ok (.ireturn, 1) := by decide +kernel
theorem d_fp_added_160 : decode c_fp_added 160 = .ok (.lload 9, 2) := by decide +kernel
theorem d_fp_added_162 : decode c_fp_added 162 = .ok (.lload 11, 2) := by decide +kernel
theorem d_fp_added_164 : decode c_fp_added 164 = .ok (.ldiv, 1) := by decide +kernel
theorem d_fp_added_165 : decode c_fp_added 165 = .ok (.lstore 13, 2) := by decide +kernel
theorem d_fp_added_167 : decode c_fp_added 167 = .ok (.lload 13, 2) := by decide +kernel
theorem d_fp_added_169 : decode c_fp_added 169 = .ok (.lload 13, 2) := by decide +kernel
theorem d_fp_added_171 : decode c_fp_added 171 = .ok (.lmul, 1) := by decide +kernel
theorem d_fp_added_172 : decode c_fp_added 172 = .ok (.aload_n 1, 1) := by decide +kernel
theorem d_fp_added_173 : decode c_fp_added 173 = .ok (.getfield 69, 3) := by decide +kernel
theorem d_fp_added_176 : decode c_fp_added 176 = .ok (.lsub, 1) := by decide +kernel
theorem d_fp_added_177 : decode c_fp_added 177 = .ok (.lload 4, 2) := by decide +kernel
theorem d_fp_added_179 : decode c_fp_added 179 = .ok (.lsub, 1) := by decide +kernel
theorem d_fp_added_180 : decode c_fp_added 180 = .ok (.aload_n 0, 1) := by decide +kernel
theorem d_fp_added_181 : decode c_fp_added 181 = .ok (.getfield 11, 3) := by decide +kernel
theorem d_fp_added_184 : decode c_fp_added 184 = .ok (.iload_n 3, 1) := by decide +kernel
theorem d_fp_added_185 : decode c_fp_added 185 = .ok (.iaload, 1) := by decide +kernel
theorem d_fp_added_186 : decode c_fp_added 186 = .ok (.i2l, 1) := by decide +kernel
theorem d_fp_added_187 : decode c_fp_added 187 = .ok (.lsub, 1) := by decide +kernel
theorem d_fp_added_188 : decode c_fp_added 188 = .ok (.lstore 15, 2) := by decide +kernel
theorem d_fp_added_190 : decode c_fp_added 190 = .ok (.aload_n 0, 1) := by decide +kernel
theorem d_fp_added_191 : decode c_fp_added 191 = .ok (.lload 15, 2) := by decide +kernel
theorem d_fp_added_193 : decode c_fp_added 193 = .ok (.lload 6, 2) := by decide +kernel
theorem d_fp_added_195 : decode c_fp_added 195 = .ok (.lload 13, 2) := by decide +kernel
theorem d_fp_added_197 : decode c_fp_added 197 = .ok (.lload 15, 2) := by decide +kernel
theorem d_fp_added_199 : decode c_fp_added 199 = .ok (.lload 4, 2) := by decide +kernel
theorem d_fp_added_201 : decode c_fp_added 201 = .ok (.lsub, 1) := by decide +kernel
theorem d_fp_added_202 : decode c_fp_added 202 = .ok (.lmul, 1) := by decide +kernel
theorem d_fp_added_203 : decode c_fp_added 203 = .ok (.ladd, 1) := by decide +kernel
theorem d_fp_added_204 : decode c_fp_added 204 = .ok (.lneg, 1) := by decide +kernel
theorem d_fp_added_205 : decode c_fp_added 205 = .ok (.invokevirtual 72, 3) := by decide +kernel
theorem d_fp_added_208 : decode c_fp_added 208 = .ok (.ireturn, 1) := by decide +kernel
abbrev c_fp_append : ByteArray := prog_3_method_5_code
def y_fp_append : MethodName := { cls := "TorsionDesk$FinitePoints", name := "append", desc := "(II)V" }
abbrev zs_fp_append : List Cond := Cond.code y_fp_append c_fp_append 3 none :: zB
theorem d_fp_append_0 : decode c_fp_append 0 = .ok (.aload_n 0, 1) := by decide +kernel
theorem d_fp_append_1 : decode c_fp_append 1 = .ok (.getfield 21, 3) := by decide +kernel
theorem d_fp_append_4 : decode c_fp_append 4 = .ok (.bipush 32, 2) := by decide +kernel
theorem d_fp_append_6 : decode c_fp_append 6 = .ok (.if_icmp .ge 33, 3) := by decide +kernel
theorem d_fp_append_9 : decode c_fp_append 9 = .ok (.aload_n 0, 1) := by decide +kernel
theorem d_fp_append_10 : decode c_fp_append 10 = .ok (.getfield 11, 3) := by decide +kernel
theorem d_fp_append_13 : decode c_fp_append 13 = .ok (.aload_n 0, 1) := by decide +kernel
theorem d_fp_append_14 : decode c_fp_append 14 = .ok (.getfield 21, 3) := by decide +kernel
theorem d_fp_append_17 : decode c_fp_append 17 = .ok (.iload_n 1, 1) := by decide +kernel
theorem d_fp_append_18 : decode c_fp_append 18 = .ok (.iastore, 1) := by decide +kernel
theorem d_fp_append_19 : decode c_fp_append 19 = .ok (.aload_n 0, 1) := by decide +kernel
theorem d_fp_append_20 : decode c_fp_append 20 = .ok (.getfield 15, 3) := by decide +kernel
theorem d_fp_append_23 : decode c_fp_append 23 = .ok (.aload_n 0, 1) := by decide +kernel
theorem d_fp_append_24 : decode c_fp_append 24 = .ok (.getfield 21, 3) := by decide +kernel
theorem d_fp_append_27 : decode c_fp_append 27 = .ok (.iload_n 2, 1) := by decide +kernel
theorem d_fp_append_28 : decode c_fp_append 28 = .ok (.iastore, 1) := by decide +kernel
theorem d_fp_append_29 : decode c_fp_append 29 = .ok (.aload_n 0, 1) := by decide +kernel
theorem d_fp_append_30 : decode c_fp_append 30 = .ok (.dup, 1) := by decide +kernel
theorem d_fp_append_31 : decode c_fp_append 31 = .ok (.getfield 21, 3) := by decide +kernel
theorem d_fp_append_34 : decode c_fp_append 34 = .ok (.iconst 1, 1) := by decide +kernel
theorem d_fp_append_35 : decode c_fp_append 35 = .ok (.iadd, 1) := by decide +kernel
theorem d_fp_append_36 : decode c_fp_append 36 = .ok (.putfield 21, 3) := by decide +kernel
theorem d_fp_append_39 : decode c_fp_append 39 = .ok (.return_, 1) := by decide +kernel
abbrev c_fp_orderOf : ByteArray := prog_3_method_6_code
def y_fp_orderOf : MethodName := { cls := "TorsionDesk$FinitePoints", name := "orderOf", desc := "(LTorsionDesk$Cubic;I)I" }
abbrev zs_fp_orderOf : List Cond := Cond.code y_fp_orderOf c_fp_orderOf 5 (some .int) :: zB
theorem d_fp_orderOf_0 : decode c_fp_orderOf 0 = .ok (.iload_n 2, 1) := by decide +kernel
theorem d_fp_orderOf_1 : decode c_fp_orderOf 1 = .ok (.istore_n 3, 1) := by decide +kernel
theorem d_fp_orderOf_2 : decode c_fp_orderOf 2 = .ok (.iconst 1, 1) := by decide +kernel
theorem d_fp_orderOf_3 : decode c_fp_orderOf 3 = .ok (.istore 4, 2) := by decide +kernel
theorem d_fp_orderOf_5 : decode c_fp_orderOf 5 = .ok (.iload 4, 2) := by decide +kernel
theorem d_fp_orderOf_7 : decode c_fp_orderOf 7 = .ok (.bipush 12, 2) := by decide +kernel
theorem d_fp_orderOf_9 : decode c_fp_orderOf 9 = .ok (.if_icmp .gt 24, 3) := by decide +kernel
theorem d_fp_orderOf_12 : decode c_fp_orderOf 12 = .ok (.iload_n 3, 1) := by decide +kernel
theorem d_fp_orderOf_13 : decode c_fp_orderOf 13 = .ok (.ifCond .ne 6, 3) := by decide +kernel
theorem d_fp_orderOf_16 : decode c_fp_orderOf 16 = .ok (.iload 4, 2) := by decide +kernel
theorem d_fp_orderOf_18 : decode c_fp_orderOf 18 = .ok (.ireturn, 1) := by decide +kernel
theorem d_fp_orderOf_19 : decode c_fp_orderOf 19 = .ok (.aload_n 0, 1) := by decide +kernel
theorem d_fp_orderOf_20 : decode c_fp_orderOf 20 = .ok (.aload_n 1, 1) := by decide +kernel
theorem d_fp_orderOf_21 : decode c_fp_orderOf 21 = .ok (.iload_n 3, 1) := by decide +kernel
theorem d_fp_orderOf_22 : decode c_fp_orderOf 22 = .ok (.iload_n 2, 1) := by decide +kernel
theorem d_fp_orderOf_23 : decode c_fp_orderOf 23 = .ok (.invokevirtual 56, 3) := by decide +kernel
theorem d_fp_orderOf_26 : decode c_fp_orderOf 26 = .ok (.istore_n 3, 1) := by decide +kernel
theorem d_fp_orderOf_27 : decode c_fp_orderOf 27 = .ok (.iinc 4 1, 3) := by decide +kernel
theorem d_fp_orderOf_30 : decode c_fp_orderOf 30 = .ok (.goto (-25), 3) := by decide +kernel
theorem d_fp_orderOf_33 : decode c_fp_orderOf 33 = .ok (.iconst (-1), 1) := by decide +kernel
theorem d_fp_orderOf_34 : decode c_fp_orderOf 34 = .ok (.ireturn, 1) := by decide +kernel
theorem zw_2 : (Jvm.Cond.initialized "TorsionDesk$Cubic") ∈ zB := zB1 (List.mem_append_left _ (List.mem_of_getElem? (i := 2) rfl)) rfl
theorem zw_4 : (Jvm.Cond.initialized "TorsionDesk$FinitePoints") ∈ zB := zB1 (List.mem_append_left _ (List.mem_of_getElem? (i := 4) rfl)) rfl
theorem zw_28 : (Jvm.Cond.fieldLink "TorsionDesk$Cubic" (21 : Nat) "TorsionDesk$Cubic" "square" "J") ∈ zB := zB1 (List.mem_append_left _ (List.mem_of_getElem? (i := 28) rfl)) rfl
theorem zw_29 : (Jvm.Cond.fieldLink "TorsionDesk$FinitePoints" (69 : Nat) "TorsionDesk$Cubic" "square" "J") ∈ zB := zB1 (List.mem_append_left _ (List.mem_of_getElem? (i := 29) rfl)) rfl
theorem zw_30 : (Jvm.Cond.fieldLink "TorsionDesk$Cubic" (25 : Nat) "TorsionDesk$Cubic" "linear" "J") ∈ zB := zB1 (List.mem_append_left _ (List.mem_of_getElem? (i := 30) rfl)) rfl
theorem zw_31 : (Jvm.Cond.fieldLink "TorsionDesk$Cubic" (28 : Nat) "TorsionDesk$Cubic" "constant" "J") ∈ zB := zB1 (List.mem_append_left _ (List.mem_of_getElem? (i := 31) rfl)) rfl
theorem zw_33 : (Jvm.Cond.fieldLink "TorsionDesk$Cubic" (35 : Nat) "TorsionDesk$Cubic" "discriminant" "J") ∈ zB := zB1 (List.mem_append_left _ (List.mem_of_getElem? (i := 33) rfl)) rfl
theorem zw_35 : (Jvm.Cond.lays "TorsionDesk$Cubic" "TorsionDesk$Cubic" "square" "J") ∈ zB := zB1 (List.mem_append_left _ (List.mem_of_getElem? (i := 35) rfl)) rfl
theorem zw_37 : (Jvm.Cond.lays "TorsionDesk$Cubic" "TorsionDesk$Cubic" "linear" "J") ∈ zB := zB1 (List.mem_append_left _ (List.mem_of_getElem? (i := 37) rfl)) rfl
theorem zw_39 : (Jvm.Cond.lays "TorsionDesk$Cubic" "TorsionDesk$Cubic" "constant" "J") ∈ zB := zB1 (List.mem_append_left _ (List.mem_of_getElem? (i := 39) rfl)) rfl
theorem zw_41 : (Jvm.Cond.lays "TorsionDesk$Cubic" "TorsionDesk$Cubic" "discriminant" "J") ∈ zB := zB1 (List.mem_append_left _ (List.mem_of_getElem? (i := 41) rfl)) rfl
theorem zw_43 : (Jvm.Cond.laysFinal "TorsionDesk$Cubic" "TorsionDesk$Cubic" "rootCounts" "[I") ∈ zB := zB1 (List.mem_append_left _ (List.mem_of_getElem? (i := 43) rfl)) rfl
theorem zw_59 : (Jvm.Cond.laysFinal "TorsionDesk$SquareDivisors" "TorsionDesk$SquareDivisors" "row" "[I") ∈ zB := zB1 (List.mem_append_left _ (List.mem_of_getElem? (i := 59) rfl)) rfl
theorem zw_61 : (Jvm.Cond.lays "TorsionDesk$SquareDivisors" "TorsionDesk$SquareDivisors" "size" "I") ∈ zB := zB1 (List.mem_append_left _ (List.mem_of_getElem? (i := 61) rfl)) rfl
theorem zw_63 : (Jvm.Cond.lays "TorsionDesk$SquareDivisors" "TorsionDesk$SquareDivisors" "largestSquare" "J") ∈ zB := zB1 (List.mem_append_left _ (List.mem_of_getElem? (i := 63) rfl)) rfl
theorem zw_72 : (Jvm.Cond.fieldLink "TorsionDesk$FinitePoints" (11 : Nat) "TorsionDesk$FinitePoints" "xs" "[I") ∈ zB := zB1 (List.mem_append_left _ (List.mem_of_getElem? (i := 72) rfl)) rfl
theorem zw_74 : (Jvm.Cond.fieldLink "TorsionDesk$FinitePoints" (15 : Nat) "TorsionDesk$FinitePoints" "ys" "[I") ∈ zB := zB1 (List.mem_append_left _ (List.mem_of_getElem? (i := 74) rfl)) rfl
theorem zw_78 : (Jvm.Cond.fieldLink "TorsionDesk$FinitePoints" (21 : Nat) "TorsionDesk$FinitePoints" "size" "I") ∈ zB := zB1 (List.mem_append_left _ (List.mem_of_getElem? (i := 78) rfl)) rfl
theorem zw_80 : (Jvm.Cond.laysFinal "TorsionDesk$FinitePoints" "TorsionDesk$FinitePoints" "xs" "[I") ∈ zB := zB1 (List.mem_append_left _ (List.mem_of_getElem? (i := 80) rfl)) rfl
theorem zw_82 : (Jvm.Cond.laysFinal "TorsionDesk$FinitePoints" "TorsionDesk$FinitePoints" "ys" "[I") ∈ zB := zB1 (List.mem_append_left _ (List.mem_of_getElem? (i := 82) rfl)) rfl
theorem zw_84 : (Jvm.Cond.laysFinal "TorsionDesk$FinitePoints" "TorsionDesk$FinitePoints" "orders" "[I") ∈ zB := zB1 (List.mem_append_left _ (List.mem_of_getElem? (i := 84) rfl)) rfl
theorem zw_86 : (Jvm.Cond.lays "TorsionDesk$FinitePoints" "TorsionDesk$FinitePoints" "size" "I") ∈ zB := zB1 (List.mem_append_left _ (List.mem_of_getElem? (i := 86) rfl)) rfl
theorem zw_95 : (Jvm.Cond.laysFinal "TorsionDesk" "TorsionDesk" "cubic" "LTorsionDesk$Cubic;") ∈ zB := zB1 (List.mem_append_left _ (List.mem_of_getElem? (i := 95) rfl)) rfl
theorem zw_97 : (Jvm.Cond.laysFinal "TorsionDesk" "TorsionDesk" "divisors" "LTorsionDesk$SquareDivisors;") ∈ zB := zB1 (List.mem_append_left _ (List.mem_of_getElem? (i := 97) rfl)) rfl
theorem zw_99 : (Jvm.Cond.laysFinal "TorsionDesk" "TorsionDesk" "finite" "LTorsionDesk$FinitePoints;") ∈ zB := zB1 (List.mem_append_left _ (List.mem_of_getElem? (i := 99) rfl)) rfl
theorem zw_101 : (Jvm.Cond.lays "TorsionDesk" "TorsionDesk" "hasCurve" "Z") ∈ zB := zB1 (List.mem_append_left _ (List.mem_of_getElem? (i := 101) rfl)) rfl
theorem zw_103 : (Jvm.Cond.lays "TorsionDesk" "TorsionDesk" "a" "I") ∈ zB := zB1 (List.mem_append_left _ (List.mem_of_getElem? (i := 103) rfl)) rfl
theorem zw_105 : (Jvm.Cond.lays "TorsionDesk" "TorsionDesk" "c" "I") ∈ zB := zB1 (List.mem_append_left _ (List.mem_of_getElem? (i := 105) rfl)) rfl
theorem zw_125 : (Jvm.Cond.instanceMethod ({ cls := "TorsionDesk$FinitePoints", name := "has", desc := "(I)Z" } : Jvm.MethodName)) ∈ zB := zB1 (List.mem_append_left _ (List.mem_of_getElem? (i := 125) rfl)) rfl
theorem zw_126 : (Jvm.Cond.selects "TorsionDesk$FinitePoints" ({ cls := "TorsionDesk$FinitePoints", name := "has", desc := "(I)Z" } : Jvm.MethodName) ({ cls := "TorsionDesk$FinitePoints", name := "has", desc := "(I)Z" } : Jvm.MethodName)) ∈ zB := zB1 (List.mem_append_left _ (List.mem_of_getElem? (i := 126) rfl)) rfl
theorem zw_127 : (Jvm.Cond.code ({ cls := "TorsionDesk$FinitePoints", name := "has", desc := "(I)Z" } : Jvm.MethodName) prog_3_method_2_code (2 : Nat) (Option.some Jvm.ClassFile.FieldType.boolean)) ∈ zB := zB1 (List.mem_append_left _ (List.mem_of_getElem? (i := 127) rfl)) rfl
theorem zw_136 : (Jvm.Cond.instanceMethod ({ cls := "TorsionDesk$FinitePoints", name := "numberOf", desc := "(JJ)I" } : Jvm.MethodName)) ∈ zB := zB1 (List.mem_append_left _ (List.mem_of_getElem? (i := 136) rfl)) rfl
theorem zw_137 : (Jvm.Cond.selects "TorsionDesk$FinitePoints" ({ cls := "TorsionDesk$FinitePoints", name := "numberOf", desc := "(JJ)I" } : Jvm.MethodName) ({ cls := "TorsionDesk$FinitePoints", name := "numberOf", desc := "(JJ)I" } : Jvm.MethodName)) ∈ zB := zB1 (List.mem_append_left _ (List.mem_of_getElem? (i := 137) rfl)) rfl
theorem zw_138 : (Jvm.Cond.code ({ cls := "TorsionDesk$FinitePoints", name := "numberOf", desc := "(JJ)I" } : Jvm.MethodName) prog_3_method_8_code (6 : Nat) (Option.some Jvm.ClassFile.FieldType.int)) ∈ zB := zB1 (List.mem_append_left _ (List.mem_of_getElem? (i := 138) rfl)) rfl
theorem zw_144 : (Jvm.Cond.instanceMethod ({ cls := "TorsionDesk$FinitePoints", name := "added", desc := "(LTorsionDesk$Cubic;II)I" } : Jvm.MethodName)) ∈ zB := zB1 (List.mem_append_left _ (List.mem_of_getElem? (i := 144) rfl)) rfl
theorem zw_145 : (Jvm.Cond.selects "TorsionDesk$FinitePoints" ({ cls := "TorsionDesk$FinitePoints", name := "added", desc := "(LTorsionDesk$Cubic;II)I" } : Jvm.MethodName) ({ cls := "TorsionDesk$FinitePoints", name := "added", desc := "(LTorsionDesk$Cubic;II)I" } : Jvm.MethodName)) ∈ zB := zB1 (List.mem_append_left _ (List.mem_of_getElem? (i := 145) rfl)) rfl
theorem zw_146 : (Jvm.Cond.code ({ cls := "TorsionDesk$FinitePoints", name := "added", desc := "(LTorsionDesk$Cubic;II)I" } : Jvm.MethodName) prog_3_method_9_code (17 : Nat) (Option.some Jvm.ClassFile.FieldType.int)) ∈ zB := zB1 (List.mem_append_left _ (List.mem_of_getElem? (i := 146) rfl)) rfl
theorem zw_147 : (Jvm.Cond.methodLink "TorsionDesk$FinitePoints" (60 : Nat) ({ cls := "TorsionDesk$FinitePoints", name := "has", desc := "(I)Z" } : Jvm.MethodName)) ∈ zB := zB1 (List.mem_append_left _ (List.mem_of_getElem? (i := 147) rfl)) rfl
theorem zw_148 : (Jvm.Cond.methodLink "TorsionDesk$FinitePoints" (64 : Nat) ({ cls := "TorsionDesk$Cubic", name := "steepnessAt", desc := "(J)J" } : Jvm.MethodName)) ∈ zB := zB1 (List.mem_append_left _ (List.mem_of_getElem? (i := 148) rfl)) rfl
theorem zw_149 : (Jvm.Cond.instanceMethod ({ cls := "TorsionDesk$Cubic", name := "steepnessAt", desc := "(J)J" } : Jvm.MethodName)) ∈ zB := zB1 (List.mem_append_left _ (List.mem_of_getElem? (i := 149) rfl)) rfl
theorem zw_150 : (Jvm.Cond.selects "TorsionDesk$Cubic" ({ cls := "TorsionDesk$Cubic", name := "steepnessAt", desc := "(J)J" } : Jvm.MethodName) ({ cls := "TorsionDesk$Cubic", name := "steepnessAt", desc := "(J)J" } : Jvm.MethodName)) ∈ zB := zB1 (List.mem_append_left _ (List.mem_of_getElem? (i := 150) rfl)) rfl
theorem zw_151 : (Jvm.Cond.code ({ cls := "TorsionDesk$Cubic", name := "steepnessAt", desc := "(J)J" } : Jvm.MethodName) prog_2_method_5_code (3 : Nat) (Option.some Jvm.ClassFile.FieldType.long)) ∈ zB := zB1 (List.mem_append_left _ (List.mem_of_getElem? (i := 151) rfl)) rfl
theorem zw_152 : (Jvm.Cond.constantLong "TorsionDesk$Cubic" (38 : Nat) (3 : Int64)) ∈ zB := zB1 (List.mem_append_left _ (List.mem_of_getElem? (i := 152) rfl)) rfl
theorem zw_153 : (Jvm.Cond.constantLong "TorsionDesk$Cubic" (40 : Nat) (2 : Int64)) ∈ zB := zB1 (List.mem_append_left _ (List.mem_of_getElem? (i := 153) rfl)) rfl
theorem zw_154 : (Jvm.Cond.constantLong "TorsionDesk$FinitePoints" (67 : Nat) (2 : Int64)) ∈ zB := zB1 (List.mem_append_left _ (List.mem_of_getElem? (i := 154) rfl)) rfl
theorem zw_155 : (Jvm.Cond.methodLink "TorsionDesk$FinitePoints" (72 : Nat) ({ cls := "TorsionDesk$FinitePoints", name := "numberOf", desc := "(JJ)I" } : Jvm.MethodName)) ∈ zB := zB1 (List.mem_append_left _ (List.mem_of_getElem? (i := 155) rfl)) rfl
theorem zw_167 : (Jvm.Cond.methodLink "TorsionDesk$FinitePoints" (56 : Nat) ({ cls := "TorsionDesk$FinitePoints", name := "added", desc := "(LTorsionDesk$Cubic;II)I" } : Jvm.MethodName)) ∈ zB := zB1 (List.mem_append_left _ (List.mem_of_getElem? (i := 167) rfl)) rfl
theorem zw_311 : (Jvm.Cond.static ({ cls := "TorsionDesk$Cubic", name := "discriminantOf", desc := "(JJJ)J" } : Jvm.MethodName)) ∈ zB := zB1 (List.mem_append_right _ (List.mem_append_left _ (List.mem_of_getElem? (i := 71) rfl))) rfl
theorem zw_312 : (Jvm.Cond.code ({ cls := "TorsionDesk$Cubic", name := "discriminantOf", desc := "(JJJ)J" } : Jvm.MethodName) prog_2_method_2_code (6 : Nat) (Option.some Jvm.ClassFile.FieldType.long)) ∈ zB := zB1 (List.mem_append_right _ (List.mem_append_left _ (List.mem_of_getElem? (i := 72) rfl))) rfl
theorem zw_313 : (Jvm.Cond.constantLong "TorsionDesk$Cubic" (15 : Nat) (4 : Int64)) ∈ zB := zB1 (List.mem_append_right _ (List.mem_append_left _ (List.mem_of_getElem? (i := 73) rfl))) rfl
theorem zw_314 : (Jvm.Cond.constantLong "TorsionDesk$Cubic" (17 : Nat) (27 : Int64)) ∈ zB := zB1 (List.mem_append_right _ (List.mem_append_left _ (List.mem_of_getElem? (i := 74) rfl))) rfl
theorem zw_315 : (Jvm.Cond.constantLong "TorsionDesk$Cubic" (19 : Nat) (18 : Int64)) ∈ zB := zB1 (List.mem_append_right _ (List.mem_append_left _ (List.mem_of_getElem? (i := 75) rfl))) rfl
theorem zw_336 : (Jvm.Cond.methodLink "TorsionDesk$Cubic" (31 : Nat) ({ cls := "TorsionDesk$Cubic", name := "discriminantOf", desc := "(JJJ)J" } : Jvm.MethodName)) ∈ zB := zB1 (List.mem_append_right _ (List.mem_append_left _ (List.mem_of_getElem? (i := 96) rfl))) rfl
theorem zw_437 : (Jvm.Cond.lays "TorsionDeskModel" "TorsionDeskModel" "thrown" "I") ∈ zB := zB1 (List.mem_append_right _ (List.mem_append_left _ (List.mem_of_getElem? (i := 197) rfl))) rfl
theorem zw_439 : (Jvm.Cond.lays "TorsionDeskModel" "TorsionDeskModel" "there" "Z") ∈ zB := zB1 (List.mem_append_right _ (List.mem_append_left _ (List.mem_of_getElem? (i := 199) rfl))) rfl
theorem zw_441 : (Jvm.Cond.lays "TorsionDeskModel" "TorsionDeskModel" "ca" "I") ∈ zB := zB1 (List.mem_append_right _ (List.mem_append_left _ (List.mem_of_getElem? (i := 201) rfl))) rfl
theorem zw_443 : (Jvm.Cond.lays "TorsionDeskModel" "TorsionDeskModel" "cc" "I") ∈ zB := zB1 (List.mem_append_right _ (List.mem_append_left _ (List.mem_of_getElem? (i := 203) rfl))) rfl
theorem zw_445 : (Jvm.Cond.lays "TorsionDeskModel" "TorsionDeskModel" "one" "J") ∈ zB := zB1 (List.mem_append_right _ (List.mem_append_left _ (List.mem_of_getElem? (i := 205) rfl))) rfl
theorem zw_447 : (Jvm.Cond.lays "TorsionDeskModel" "TorsionDeskModel" "two" "J") ∈ zB := zB1 (List.mem_append_right _ (List.mem_append_left _ (List.mem_of_getElem? (i := 207) rfl))) rfl
theorem zw_449 : (Jvm.Cond.lays "TorsionDeskModel" "TorsionDeskModel" "three" "J") ∈ zB := zB1 (List.mem_append_right _ (List.mem_append_left _ (List.mem_of_getElem? (i := 209) rfl))) rfl
theorem zw_451 : (Jvm.Cond.lays "TorsionDeskModel" "TorsionDeskModel" "disc" "J") ∈ zB := zB1 (List.mem_append_right _ (List.mem_append_left _ (List.mem_of_getElem? (i := 211) rfl))) rfl
theorem zw_453 : (Jvm.Cond.lays "TorsionDeskModel" "TorsionDeskModel" "points" "I") ∈ zB := zB1 (List.mem_append_right _ (List.mem_append_left _ (List.mem_of_getElem? (i := 213) rfl))) rfl
theorem zw_455 : (Jvm.Cond.laysFinal "TorsionDeskModel" "TorsionDeskModel" "px" "[I") ∈ zB := zB1 (List.mem_append_right _ (List.mem_append_left _ (List.mem_of_getElem? (i := 215) rfl))) rfl
theorem zw_457 : (Jvm.Cond.laysFinal "TorsionDeskModel" "TorsionDeskModel" "py" "[I") ∈ zB := zB1 (List.mem_append_right _ (List.mem_append_left _ (List.mem_of_getElem? (i := 217) rfl))) rfl
theorem zw_459 : (Jvm.Cond.laysFinal "TorsionDeskModel" "TorsionDeskModel" "order" "[I") ∈ zB := zB1 (List.mem_append_right _ (List.mem_append_left _ (List.mem_of_getElem? (i := 219) rfl))) rfl
theorem zw_461 : (Jvm.Cond.lays "TorsionDeskModel" "TorsionDeskModel" "zero" "Z") ∈ zB := zB1 (List.mem_append_right _ (List.mem_append_left _ (List.mem_of_getElem? (i := 221) rfl))) rfl
theorem zw_463 : (Jvm.Cond.lays "TorsionDeskModel" "TorsionDeskModel" "whole" "Z") ∈ zB := zB1 (List.mem_append_right _ (List.mem_append_left _ (List.mem_of_getElem? (i := 223) rfl))) rfl
theorem zw_465 : (Jvm.Cond.lays "TorsionDeskModel" "TorsionDeskModel" "sx" "J") ∈ zB := zB1 (List.mem_append_right _ (List.mem_append_left _ (List.mem_of_getElem? (i := 225) rfl))) rfl
theorem zw_467 : (Jvm.Cond.lays "TorsionDeskModel" "TorsionDeskModel" "sy" "J") ∈ zB := zB1 (List.mem_append_right _ (List.mem_append_left _ (List.mem_of_getElem? (i := 227) rfl))) rfl
theorem zw_469 : (Jvm.Cond.lays "TorsionDeskModel" "TorsionDeskModel" "rows" "I") ∈ zB := zB1 (List.mem_append_right _ (List.mem_append_left _ (List.mem_of_getElem? (i := 229) rfl))) rfl
theorem zw_471 : (Jvm.Cond.lays "TorsionDeskModel" "TorsionDeskModel" "columns" "I") ∈ zB := zB1 (List.mem_append_right _ (List.mem_append_left _ (List.mem_of_getElem? (i := 231) rfl))) rfl
theorem zw_473 : (Jvm.Cond.lays "TorsionDeskModel" "TorsionDeskModel" "first" "I") ∈ zB := zB1 (List.mem_append_right _ (List.mem_append_left _ (List.mem_of_getElem? (i := 233) rfl))) rfl
theorem zw_475 : (Jvm.Cond.lays "TorsionDeskModel" "TorsionDeskModel" "second" "I") ∈ zB := zB1 (List.mem_append_right _ (List.mem_append_left _ (List.mem_of_getElem? (i := 235) rfl))) rfl
theorem lX0 : ∀ w ∈ u_ws "TorsionDesk$Cubic" tX0 5, w ∈ zB := by
  show ∀ w ∈ [u_lay "TorsionDesk$Cubic" tX0 0, u_lay "TorsionDesk$Cubic" tX0 1, u_lay "TorsionDesk$Cubic" tX0 2, u_lay "TorsionDesk$Cubic" tX0 3, u_lay "TorsionDesk$Cubic" tX0 4], w ∈ zB
  exact List.forall_mem_cons.mpr ⟨zw_35, List.forall_mem_cons.mpr ⟨zw_37, List.forall_mem_cons.mpr ⟨zw_39, List.forall_mem_cons.mpr ⟨zw_41, List.forall_mem_cons.mpr ⟨zw_43, fun _ h => nomatch h⟩⟩⟩⟩⟩
theorem lX1 : ∀ w ∈ u_ws "TorsionDesk$FinitePoints" tX1 4, w ∈ zB := by
  show ∀ w ∈ [u_lay "TorsionDesk$FinitePoints" tX1 0, u_lay "TorsionDesk$FinitePoints" tX1 1, u_lay "TorsionDesk$FinitePoints" tX1 2, u_lay "TorsionDesk$FinitePoints" tX1 3], w ∈ zB
  exact List.forall_mem_cons.mpr ⟨zw_80, List.forall_mem_cons.mpr ⟨zw_82, List.forall_mem_cons.mpr ⟨zw_84, List.forall_mem_cons.mpr ⟨zw_86, fun _ h => nomatch h⟩⟩⟩⟩
theorem lX2 : ∀ w ∈ u_ws "TorsionDesk$SquareDivisors" tX2 3, w ∈ zB := by
  show ∀ w ∈ [u_lay "TorsionDesk$SquareDivisors" tX2 0, u_lay "TorsionDesk$SquareDivisors" tX2 1, u_lay "TorsionDesk$SquareDivisors" tX2 2], w ∈ zB
  exact List.forall_mem_cons.mpr ⟨zw_59, List.forall_mem_cons.mpr ⟨zw_61, List.forall_mem_cons.mpr ⟨zw_63, fun _ h => nomatch h⟩⟩⟩
theorem lX3 : ∀ w ∈ u_ws "TorsionDesk" tX3 6, w ∈ zB := by
  show ∀ w ∈ [u_lay "TorsionDesk" tX3 0, u_lay "TorsionDesk" tX3 1, u_lay "TorsionDesk" tX3 2, u_lay "TorsionDesk" tX3 3, u_lay "TorsionDesk" tX3 4, u_lay "TorsionDesk" tX3 5], w ∈ zB
  exact List.forall_mem_cons.mpr ⟨zw_95, List.forall_mem_cons.mpr ⟨zw_97, List.forall_mem_cons.mpr ⟨zw_99, List.forall_mem_cons.mpr ⟨zw_101, List.forall_mem_cons.mpr ⟨zw_103, List.forall_mem_cons.mpr ⟨zw_105, fun _ h => nomatch h⟩⟩⟩⟩⟩⟩
theorem lX4 : ∀ w ∈ u_ws "TorsionDeskModel" tX4 20, w ∈ zB := by
  show ∀ w ∈ [u_lay "TorsionDeskModel" tX4 0, u_lay "TorsionDeskModel" tX4 1, u_lay "TorsionDeskModel" tX4 2, u_lay "TorsionDeskModel" tX4 3, u_lay "TorsionDeskModel" tX4 4, u_lay "TorsionDeskModel" tX4 5, u_lay "TorsionDeskModel" tX4 6, u_lay "TorsionDeskModel" tX4 7, u_lay "TorsionDeskModel" tX4 8, u_lay "TorsionDeskModel" tX4 9, u_lay "TorsionDeskModel" tX4 10, u_lay "TorsionDeskModel" tX4 11, u_lay "TorsionDeskModel" tX4 12, u_lay "TorsionDeskModel" tX4 13, u_lay "TorsionDeskModel" tX4 14, u_lay "TorsionDeskModel" tX4 15, u_lay "TorsionDeskModel" tX4 16, u_lay "TorsionDeskModel" tX4 17, u_lay "TorsionDeskModel" tX4 18, u_lay "TorsionDeskModel" tX4 19], w ∈ zB
  exact List.forall_mem_cons.mpr ⟨zw_437, List.forall_mem_cons.mpr ⟨zw_439, List.forall_mem_cons.mpr ⟨zw_441, List.forall_mem_cons.mpr ⟨zw_443, List.forall_mem_cons.mpr ⟨zw_445, List.forall_mem_cons.mpr ⟨zw_447, List.forall_mem_cons.mpr ⟨zw_449, List.forall_mem_cons.mpr ⟨zw_451, List.forall_mem_cons.mpr ⟨zw_453, List.forall_mem_cons.mpr ⟨zw_455, List.forall_mem_cons.mpr ⟨zw_457, List.forall_mem_cons.mpr ⟨zw_459, List.forall_mem_cons.mpr ⟨zw_461, List.forall_mem_cons.mpr ⟨zw_463, List.forall_mem_cons.mpr ⟨zw_465, List.forall_mem_cons.mpr ⟨zw_467, List.forall_mem_cons.mpr ⟨zw_469, List.forall_mem_cons.mpr ⟨zw_471, List.forall_mem_cons.mpr ⟨zw_473, List.forall_mem_cons.mpr ⟨zw_475, fun _ h => nomatch h⟩⟩⟩⟩⟩⟩⟩⟩⟩⟩⟩⟩⟩⟩⟩⟩⟩⟩⟩⟩
