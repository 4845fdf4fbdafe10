section
-- ===== PART A: goes FIRST, ahead of the names: the tables' words, and 'selects' of the private methods out of them =====
/-- a private method of a class that the tables say can be made, by its rows of tables_1 -/
def lw_okq (q : MethodName × Nat) : Prop := (q.1.cls ≠ "java/lang/invoke/MethodHandle" ∧ q.1.cls ≠ "java/lang/invoke/VarHandle") ∧ Cond.instantiable q.1.cls q.2 ∈ tables_1 ∧ Cond.privateMethod q.1 ∈ tables_1 ∧ Cond.instanceMethod q.1 ∈ tables_1
theorem lw_p0 : lw_okq (⟨"TorsionDesk$FinitePoints", "meetsOnlyInZero", "(LTorsionDesk$Cubic;II)Z"⟩, 4) := ⟨⟨by decide +kernel, by decide +kernel⟩, List.mem_of_getElem? (i := 67) (by decide +kernel), List.mem_of_getElem? (i := 194) (by decide +kernel), List.mem_of_getElem? (i := 195) (by decide +kernel)⟩
theorem lw_p1 : lw_okq (⟨"TorsionDesk$FinitePoints", "isMultiple", "(LTorsionDesk$Cubic;II)Z"⟩, 4) := ⟨⟨by decide +kernel, by decide +kernel⟩, List.mem_of_getElem? (i := 67) (by decide +kernel), List.mem_of_getElem? (i := 199) (by decide +kernel), List.mem_of_getElem? (i := 200) (by decide +kernel)⟩
theorem lw_p2 : lw_okq (⟨"java/lang/Throwable", "fillInStackTrace", "(I)Ljava/lang/Throwable;"⟩, 6) := ⟨⟨by decide +kernel, by decide +kernel⟩, List.mem_of_getElem? (i := 281) (by decide +kernel), List.mem_of_getElem? (i := 279) (by decide +kernel), List.mem_of_getElem? (i := 280) (by decide +kernel)⟩
theorem lw_p3 : lw_okq (⟨"TorsionDesk$SquareDivisors", "append", "(I)V"⟩, 3) := ⟨⟨by decide +kernel, by decide +kernel⟩, List.mem_of_getElem? (i := 48) (by decide +kernel), List.mem_of_getElem? (i := 354) (by decide +kernel), List.mem_of_getElem? (i := 355) (by decide +kernel)⟩
theorem lw_p4 : lw_okq (⟨"TorsionDesk$FinitePoints", "collect", "(LTorsionDesk$Cubic;LTorsionDesk$SquareDivisors;)V"⟩, 4) := ⟨⟨by decide +kernel, by decide +kernel⟩, List.mem_of_getElem? (i := 67) (by decide +kernel), List.mem_of_getElem? (i := 362) (by decide +kernel), List.mem_of_getElem? (i := 363) (by decide +kernel)⟩
theorem lw_p5 : lw_okq (⟨"TorsionDesk$FinitePoints", "append", "(II)V"⟩, 4) := ⟨⟨by decide +kernel, by decide +kernel⟩, List.mem_of_getElem? (i := 67) (by decide +kernel), List.mem_of_getElem? (i := 366) (by decide +kernel), List.mem_of_getElem? (i := 367) (by decide +kernel)⟩
theorem lw_p6 : lw_okq (⟨"TorsionDesk$FinitePoints", "orderOf", "(LTorsionDesk$Cubic;I)I"⟩, 4) := ⟨⟨by decide +kernel, by decide +kernel⟩, List.mem_of_getElem? (i := 67) (by decide +kernel), List.mem_of_getElem? (i := 375) (by decide +kernel), List.mem_of_getElem? (i := 376) (by decide +kernel)⟩
theorem lw_p7 : lw_okq (⟨"TorsionDesk$FinitePoints", "keepFinite", "()V"⟩, 4) := ⟨⟨by decide +kernel, by decide +kernel⟩, List.mem_of_getElem? (i := 67) (by decide +kernel), List.mem_of_getElem? (i := 379) (by decide +kernel), List.mem_of_getElem? (i := 380) (by decide +kernel)⟩
theorem lw_p8 : lw_okq (⟨"TorsionDeskModel", "cubic", "(J)J"⟩, 20) := ⟨⟨by decide +kernel, by decide +kernel⟩, List.mem_of_getElem? (i := 412) (by decide +kernel), List.mem_of_getElem? (i := 496) (by decide +kernel), List.mem_of_getElem? (i := 497) (by decide +kernel)⟩
theorem lw_p9 : lw_okq (⟨"TorsionDeskModel", "take", "(II)V"⟩, 20) := ⟨⟨by decide +kernel, by decide +kernel⟩, List.mem_of_getElem? (i := 412) (by decide +kernel), List.mem_of_getElem? (i := 500) (by decide +kernel), List.mem_of_getElem? (i := 501) (by decide +kernel)⟩
theorem lw_p10 : lw_okq (⟨"TorsionDeskModel", "add", "(ZJJJJ)V"⟩, 20) := ⟨⟨by decide +kernel, by decide +kernel⟩, List.mem_of_getElem? (i := 412) (by decide +kernel), List.mem_of_getElem? (i := 504) (by decide +kernel), List.mem_of_getElem? (i := 505) (by decide +kernel)⟩
theorem lw_p11 : lw_okq (⟨"TorsionDeskModel", "structure", "()V"⟩, 20) := ⟨⟨by decide +kernel, by decide +kernel⟩, List.mem_of_getElem? (i := 412) (by decide +kernel), List.mem_of_getElem? (i := 516) (by decide +kernel), List.mem_of_getElem? (i := 517) (by decide +kernel)⟩
theorem lw_p12 : lw_okq (⟨"TorsionDeskModel", "makes", "(II)Z"⟩, 20) := ⟨⟨by decide +kernel, by decide +kernel⟩, List.mem_of_getElem? (i := 412) (by decide +kernel), List.mem_of_getElem? (i := 520) (by decide +kernel), List.mem_of_getElem? (i := 521) (by decide +kernel)⟩
theorem lw_p13 : lw_okq (⟨"TorsionDeskModel", "sumOf", "(II)I"⟩, 20) := ⟨⟨by decide +kernel, by decide +kernel⟩, List.mem_of_getElem? (i := 412) (by decide +kernel), List.mem_of_getElem? (i := 524) (by decide +kernel), List.mem_of_getElem? (i := 525) (by decide +kernel)⟩
theorem lw_p14 : lw_okq (⟨"TorsionDeskModel", "number", "(JJ)I"⟩, 20) := ⟨⟨by decide +kernel, by decide +kernel⟩, List.mem_of_getElem? (i := 412) (by decide +kernel), List.mem_of_getElem? (i := 528) (by decide +kernel), List.mem_of_getElem? (i := 529) (by decide +kernel)⟩
theorem lw_p15 : lw_okq (⟨"TorsionDeskModel", "isPoint", "(I)Z"⟩, 20) := ⟨⟨by decide +kernel, by decide +kernel⟩, List.mem_of_getElem? (i := 412) (by decide +kernel), List.mem_of_getElem? (i := 552) (by decide +kernel), List.mem_of_getElem? (i := 553) (by decide +kernel)⟩
def lw_privs_1 : List (MethodName × Nat) := [(⟨"TorsionDesk$FinitePoints", "meetsOnlyInZero", "(LTorsionDesk$Cubic;II)Z"⟩, 4), (⟨"TorsionDesk$FinitePoints", "isMultiple", "(LTorsionDesk$Cubic;II)Z"⟩, 4), (⟨"java/lang/Throwable", "fillInStackTrace", "(I)Ljava/lang/Throwable;"⟩, 6), (⟨"TorsionDesk$SquareDivisors", "append", "(I)V"⟩, 3), (⟨"TorsionDesk$FinitePoints", "collect", "(LTorsionDesk$Cubic;LTorsionDesk$SquareDivisors;)V"⟩, 4), (⟨"TorsionDesk$FinitePoints", "append", "(II)V"⟩, 4), (⟨"TorsionDesk$FinitePoints", "orderOf", "(LTorsionDesk$Cubic;I)I"⟩, 4), (⟨"TorsionDesk$FinitePoints", "keepFinite", "()V"⟩, 4), (⟨"TorsionDeskModel", "cubic", "(J)J"⟩, 20), (⟨"TorsionDeskModel", "take", "(II)V"⟩, 20), (⟨"TorsionDeskModel", "add", "(ZJJJJ)V"⟩, 20), (⟨"TorsionDeskModel", "structure", "()V"⟩, 20), (⟨"TorsionDeskModel", "makes", "(II)Z"⟩, 20), (⟨"TorsionDeskModel", "sumOf", "(II)I"⟩, 20), (⟨"TorsionDeskModel", "number", "(JJ)I"⟩, 20), (⟨"TorsionDeskModel", "isPoint", "(I)Z"⟩, 20)]
theorem lw_r1 : ∀ q ∈ lw_privs_1, lw_okq q := List.forall_mem_cons.mpr ⟨lw_p0, List.forall_mem_cons.mpr ⟨lw_p1, List.forall_mem_cons.mpr ⟨lw_p2, List.forall_mem_cons.mpr ⟨lw_p3, List.forall_mem_cons.mpr ⟨lw_p4, List.forall_mem_cons.mpr ⟨lw_p5, List.forall_mem_cons.mpr ⟨lw_p6, List.forall_mem_cons.mpr ⟨lw_p7, List.forall_mem_cons.mpr ⟨lw_p8, List.forall_mem_cons.mpr ⟨lw_p9, List.forall_mem_cons.mpr ⟨lw_p10, List.forall_mem_cons.mpr ⟨lw_p11, List.forall_mem_cons.mpr ⟨lw_p12, List.forall_mem_cons.mpr ⟨lw_p13, List.forall_mem_cons.mpr ⟨lw_p14, List.forall_mem_cons.mpr ⟨lw_p15, fun _ h => absurd h List.not_mem_nil⟩⟩⟩⟩⟩⟩⟩⟩⟩⟩⟩⟩⟩⟩⟩⟩
theorem lw_p16 : lw_okq (⟨"TorsionDeskModel", "multiple", "(II)I"⟩, 20) := ⟨⟨by decide +kernel, by decide +kernel⟩, List.mem_of_getElem? (i := 412) (by decide +kernel), List.mem_of_getElem? (i := 571) (by decide +kernel), List.mem_of_getElem? (i := 572) (by decide +kernel)⟩
theorem lw_p17 : lw_okq (⟨"TorsionDeskModel", "counted", "(I)I"⟩, 20) := ⟨⟨by decide +kernel, by decide +kernel⟩, List.mem_of_getElem? (i := 412) (by decide +kernel), List.mem_of_getElem? (i := 582) (by decide +kernel), List.mem_of_getElem? (i := 583) (by decide +kernel)⟩
def lw_privs_2 : List (MethodName × Nat) := [(⟨"TorsionDeskModel", "multiple", "(II)I"⟩, 20), (⟨"TorsionDeskModel", "counted", "(I)I"⟩, 20)]
theorem lw_r2 : ∀ q ∈ lw_privs_2, lw_okq q := List.forall_mem_cons.mpr ⟨lw_p16, List.forall_mem_cons.mpr ⟨lw_p17, fun _ h => absurd h List.not_mem_nil⟩⟩
def lw_privs : List (MethodName × Nat) := lw_privs_1 ++ (lw_privs_2)
def lw_tbl : List Cond := k2_sels lw_privs ++ tables_1
theorem lw_privs_ok : ∀ q ∈ lw_privs, lw_okq q := by
  show ∀ q ∈ lw_privs_1 ++ (lw_privs_2), lw_okq q
  exact List.forall_mem_append.mpr ⟨lw_r1, lw_r2⟩

def tX0 : u_T := fun k => match k with
  | 0 => ("TorsionDesk$Cubic", "square", "J", false)
  | 1 => ("TorsionDesk$Cubic", "linear", "J", false)
  | 2 => ("TorsionDesk$Cubic", "constant", "J", false)
  | 3 => ("TorsionDesk$Cubic", "discriminant", "J", false)
  | _ => ("TorsionDesk$Cubic", "rootCounts", "[I", true)
def yX0 : Nat → FieldType := fun k => match k with
  | 0 => .long
  | 1 => .long
  | 2 => .long
  | 3 => .long
  | _ => .array .int
theorem nX0 : ∀ a, a < 5 → ∀ b, b < 5 → a ≠ b → (tX0 a).2.1 ≠ (tX0 b).2.1 := by decide +kernel
theorem yX0_ok : ∀ k, k < 5 → parseFieldDescriptor (tX0 k).2.2.1 = some (yX0 k) := by decide +kernel
def tX1 : u_T := fun k => match k with
  | 0 => ("TorsionDesk$FinitePoints", "xs", "[I", true)
  | 1 => ("TorsionDesk$FinitePoints", "ys", "[I", true)
  | 2 => ("TorsionDesk$FinitePoints", "orders", "[I", true)
  | _ => ("TorsionDesk$FinitePoints", "size", "I", false)
def yX1 : Nat → FieldType := fun k => match k with
  | 0 => .array .int
  | 1 => .array .int
  | 2 => .array .int
  | _ => .int
theorem nX1 : ∀ a, a < 4 → ∀ b, b < 4 → a ≠ b → (tX1 a).2.1 ≠ (tX1 b).2.1 := by decide +kernel
theorem yX1_ok : ∀ k, k < 4 → parseFieldDescriptor (tX1 k).2.2.1 = some (yX1 k) := by decide +kernel
def tX2 : u_T := fun k => match k with
  | 0 => ("TorsionDesk$SquareDivisors", "row", "[I", true)
  | 1 => ("TorsionDesk$SquareDivisors", "size", "I", false)
  | _ => ("TorsionDesk$SquareDivisors", "largestSquare", "J", false)
def yX2 : Nat → FieldType := fun k => match k with
  | 0 => .array .int
  | 1 => .int
  | _ => .long
theorem nX2 : ∀ a, a < 3 → ∀ b, b < 3 → a ≠ b → (tX2 a).2.1 ≠ (tX2 b).2.1 := by decide +kernel
theorem yX2_ok : ∀ k, k < 3 → parseFieldDescriptor (tX2 k).2.2.1 = some (yX2 k) := by decide +kernel
def tX3 : u_T := fun k => match k with
  | 0 => ("TorsionDesk", "cubic", "LTorsionDesk$Cubic;", true)
  | 1 => ("TorsionDesk", "divisors", "LTorsionDesk$SquareDivisors;", true)
  | 2 => ("TorsionDesk", "finite", "LTorsionDesk$FinitePoints;", true)
  | 3 => ("TorsionDesk", "hasCurve", "Z", false)
  | 4 => ("TorsionDesk", "a", "I", false)
  | _ => ("TorsionDesk", "c", "I", false)
def yX3 : Nat → FieldType := fun k => match k with
  | 0 => .object "TorsionDesk$Cubic"
  | 1 => .object "TorsionDesk$SquareDivisors"
  | 2 => .object "TorsionDesk$FinitePoints"
  | 3 => .boolean
  | 4 => .int
  | _ => .int
theorem nX3 : ∀ a, a < 6 → ∀ b, b < 6 → a ≠ b → (tX3 a).2.1 ≠ (tX3 b).2.1 := by decide +kernel
theorem yX3_ok : ∀ k, k < 6 → parseFieldDescriptor (tX3 k).2.2.1 = some (yX3 k) := by decide +kernel
def tX4 : u_T := fun k => match k with
  | 0 => ("TorsionDeskModel", "thrown", "I", false)
  | 1 => ("TorsionDeskModel", "there", "Z", false)
  | 2 => ("TorsionDeskModel", "ca", "I", false)
  | 3 => ("TorsionDeskModel", "cc", "I", false)
  | 4 => ("TorsionDeskModel", "one", "J", false)
  | 5 => ("TorsionDeskModel", "two", "J", false)
  | 6 => ("TorsionDeskModel", "three", "J", false)
  | 7 => ("TorsionDeskModel", "disc", "J", false)
  | 8 => ("TorsionDeskModel", "points", "I", false)
  | 9 => ("TorsionDeskModel", "px", "[I", true)
  | 10 => ("TorsionDeskModel", "py", "[I", true)
  | 11 => ("TorsionDeskModel", "order", "[I", true)
  | 12 => ("TorsionDeskModel", "zero", "Z", false)
  | 13 => ("TorsionDeskModel", "whole", "Z", false)
  | 14 => ("TorsionDeskModel", "sx", "J", false)
  | 15 => ("TorsionDeskModel", "sy", "J", false)
  | 16 => ("TorsionDeskModel", "rows", "I", false)
  | 17 => ("TorsionDeskModel", "columns", "I", false)
  | 18 => ("TorsionDeskModel", "first", "I", false)
  | _ => ("TorsionDeskModel", "second", "I", false)
def yX4 : Nat → FieldType := fun k => match k with
  | 0 => .int
  | 1 => .boolean
  | 2 => .int
  | 3 => .int
  | 4 => .long
  | 5 => .long
  | 6 => .long
  | 7 => .long
  | 8 => .int
  | 9 => .array .int
  | 10 => .array .int
  | 11 => .array .int
  | 12 => .boolean
  | 13 => .boolean
  | 14 => .long
  | 15 => .long
  | 16 => .int
  | 17 => .int
  | 18 => .int
  | _ => .int
theorem nX4 : ∀ a, a < 20 → ∀ b, b < 20 → a ≠ b → (tX4 a).2.1 ≠ (tX4 b).2.1 := by decide +kernel
theorem yX4_ok : ∀ k, k < 20 → parseFieldDescriptor (tX4 k).2.2.1 = some (yX4 k) := by decide +kernel
abbrev vwCl : List vw_C := [("TorsionDesk$Cubic", tX0, 5), ("TorsionDesk$FinitePoints", tX1, 4), ("TorsionDesk$SquareDivisors", tX2, 3), ("TorsionDesk", tX3, 6), ("TorsionDeskModel", tX4, 20)]
/-- all words of the tables that stay true -/
def zB : List Cond := lw_tbl.filter goodWord
theorem zB_in {w : Cond} (h : w ∈ zB) : w ∈ lw_tbl ∧ goodWord w = true := List.mem_filter.mp h
theorem zB_good {w : Cond} (h : w ∈ zB) : (w.onTables && w.keeps) = true ∨ ∃ ty, w = .arrayClass ty := good_of_word (zB_in h).2
theorem zB1 {w : Cond} (h : w ∈ tables_1) (g : goodWord w = true) : w ∈ zB := List.mem_filter.mpr ⟨List.mem_append_right _ h, g⟩
theorem zB2 {w : Cond} (h : w ∈ k2_sels lw_privs) (g : goodWord w = true) : w ∈ zB := List.mem_filter.mpr ⟨List.mem_append_left _ h, g⟩
theorem zGo {ws : List Cond} (h : ∀ w ∈ ws, w ∈ zB) : GoodIn zB ws := fun w hw => ⟨h w hw, zB_good (h w hw)⟩
theorem zgV {own C : String} {idx maxL : Nat} {y : MethodName} {c : ByteArray} {ret : Option FieldType} (h1 : Cond.methodLink own idx y ∈ zB) (h2 : Cond.instanceMethod y ∈ zB) (h3 : Cond.selects C y y ∈ zB) (h4 : Cond.initialized C ∈ zB) (h5 : Cond.code y c maxL ret ∈ zB) : GoodIn zB (wsV own idx C y (Cond.code y c maxL ret :: zB)) := by
  refine zGo fun w hw => ?_
  simp only [wsV, List.cons_append, List.nil_append, List.mem_cons] at hw
  rcases hw with rfl | rfl | rfl | rfl | rfl | hw
  · exact h1
  · exact h2
  · exact h3
  · exact h4
  · exact h5
  · exact hw
theorem zgS {own : String} {idx maxL : Nat} {y : MethodName} {c : ByteArray} {ret : Option FieldType} (h1 : Cond.methodLink own idx y ∈ zB) (h2 : Cond.static y ∈ zB) (h4 : Cond.initialized y.cls ∈ zB) (h5 : Cond.code y c maxL ret ∈ zB) : GoodIn zB (va_wsS own idx y (Cond.code y c maxL ret :: zB)) := by
  refine zGo fun w hw => ?_
  simp only [va_wsS, List.cons_append, List.nil_append, List.mem_cons] at hw
  rcases hw with rfl | rfl | rfl | rfl | hw
  · exact h1
  · exact h2
  · exact h4
  · exact h5
  · exact hw
abbrev c_cu_discriminantOf : ByteArray := prog_2_method_2_code
def y_cu_discriminantOf : MethodName := { cls := "TorsionDesk$Cubic", name := "discriminantOf", desc := "(JJJ)J" }
abbrev zs_cu_discriminantOf : List Cond := Cond.code y_cu_discriminantOf c_cu_discriminantOf 6 (some .long) :: zB
theorem d_cu_discriminantOf_0 : decode c_cu_discriminantOf 0 = .ok (.lload_n 0, 1) := by decide +kernel
theorem d_cu_discriminantOf_1 : decode c_cu_discriminantOf 1 = .ok (.lload_n 0, 1) := by decide +kernel
theorem d_cu_discriminantOf_2 : decode c_cu_discriminantOf 2 = .ok (.lmul, 1) := by decide +kernel
theorem d_cu_discriminantOf_3 : decode c_cu_discriminantOf 3 = .ok (.lload_n 2, 1) := by decide +kernel
theorem d_cu_discriminantOf_4 : decode c_cu_discriminantOf 4 = .ok (.lmul, 1) := by decide +kernel
theorem d_cu_discriminantOf_5 : decode c_cu_discriminantOf 5 = .ok (.lload_n 2, 1) := by decide +kernel
theorem d_cu_discriminantOf_6 : decode c_cu_discriminantOf 6 = .ok (.lmul, 1) := by decide +kernel
theorem d_cu_discriminantOf_7 : decode c_cu_discriminantOf 7 = .ok (.ldc2_w 15, 3) := by decide +kernel
theorem d_cu_discriminantOf_10 : decode c_cu_discriminantOf 10 = .ok (.lload_n 2, 1) := by decide +kernel
theorem d_cu_discriminantOf_11 : decode c_cu_discriminantOf 11 = .ok (.lmul, 1) := by decide +kernel
theorem d_cu_discriminantOf_12 : decode c_cu_discriminantOf 12 = .ok (.lload_n 2, 1) := by decide +kernel
theorem d_cu_discriminantOf_13 : decode c_cu_discriminantOf 13 = .ok (.lmul, 1) := by decide +kernel
theorem d_cu_discriminantOf_14 : decode c_cu_discriminantOf 14 = .ok (.lload_n 2, 1) := by decide +kernel
theorem d_cu_discriminantOf_15 : decode c_cu_discriminantOf 15 = .ok (.lmul, 1) := by decide +kernel
theorem d_cu_discriminantOf_16 : decode c_cu_discriminantOf 16 = .ok (.lsub, 1) := by decide +kernel
theorem d_cu_discriminantOf_17 : decode c_cu_discriminantOf 17 = .ok (.ldc2_w 15, 3) := by decide +kernel
theorem d_cu_discriminantOf_20 : decode c_cu_discriminantOf 20 = .ok (.lload_n 0, 1) := by decide +kernel
theorem d_cu_discriminantOf_21 : decode c_cu_discriminantOf 21 = .ok (.lmul, 1) := by decide +kernel
theorem d_cu_discriminantOf_22 : decode c_cu_discriminantOf 22 = .ok (.lload_n 0, 1) := by decide +kernel
theorem d_cu_discriminantOf_23 : decode c_cu_discriminantOf 23 = .ok (.lmul, 1) := by decide +kernel
theorem d_cu_discriminantOf_24 : decode c_cu_discriminantOf 24 = .ok (.lload_n 0, 1) := by decide +kernel
theorem d_cu_discriminantOf_25 : decode c_cu_discriminantOf 25 = .ok (.lmul, 1) := by decide +kernel
theorem d_cu_discriminantOf_26 : decode c_cu_discriminantOf 26 = .ok (.lload 4, 2) := by decide +kernel
theorem d_cu_discriminantOf_28 : decode c_cu_discriminantOf 28 = .ok (.lmul, 1) := by decide +kernel
theorem d_cu_discriminantOf_29 : decode c_cu_discriminantOf 29 = .ok (.lsub, 1) := by decide +kernel
theorem d_cu_discriminantOf_30 : decode c_cu_discriminantOf 30 = .ok (.ldc2_w 17, 3) := by decide +kernel
theorem d_cu_discriminantOf_33 : decode c_cu_discriminantOf 33 = .ok (.lload 4, 2) := by decide +kernel
theorem d_cu_discriminantOf_35 : decode c_cu_discriminantOf 35 = .ok (.lmul, 1) := by decide +kernel
theorem d_cu_discriminantOf_36 : decode c_cu_discriminantOf 36 = .ok (.lload 4, 2) := by decide +kernel
theorem d_cu_discriminantOf_38 : decode c_cu_discriminantOf 38 = .ok (.lmul, 1) := by decide +kernel
theorem d_cu_discriminantOf_39 : decode c_cu_discriminantOf 39 = .ok (.lsub, 1) := by decide +kernel
theorem d_cu_discriminantOf_40 : decode c_cu_discriminantOf 40 = .ok (.ldc2_w 19, 3) := by decide +kernel
theorem d_cu_discriminantOf_43 : decode c_cu_discriminantOf 43 = .ok (.lload_n 0, 1) := by decide +kernel
theorem d_cu_discriminantOf_44 : decode c_cu_discriminantOf 44 = .ok (.lmul, 1) := by decide +kernel
theorem d_cu_discriminantOf_45 : decode c_cu_discriminantOf 45 = .ok (.lload_n 2, 1) := by decide +kernel
theorem d_cu_discriminantOf_46 : decode c_cu_discriminantOf 46 = .ok (.lmul, 1) := by decide +kernel
theorem d_cu_discriminantOf_47 : decode c_cu_discriminantOf 47 = .ok (.lload 4, 2) := by decide +kernel
theorem d_cu_discriminantOf_49 : decode c_cu_discriminantOf 49 = .ok (.lmul, 1) := by decide +kernel
theorem d_cu_discriminantOf_50 : decode c_cu_discriminantOf 50 = .ok (.ladd, 1) := by decide +kernel
theorem d_cu_discriminantOf_51 : decode c_cu_discriminantOf 51 = .ok (.lreturn, 1) := by decide +kernel
abbrev c_cu_valueAt : ByteArray := prog_2_method_4_code
def y_cu_valueAt : MethodName := { cls := "TorsionDesk$Cubic", name := "valueAt", desc := "(J)J" }
abbrev zs_cu_valueAt : List Cond := Cond.code y_cu_valueAt c_cu_valueAt 3 (some .long) :: zB
theorem d_cu_valueAt_0 : decode c_cu_valueAt 0 = .ok (.lload_n 1, 1) := by decide +kernel
theorem d_cu_valueAt_1 : decode c_cu_valueAt 1 = .ok (.aload_n 0, 1) := by decide +kernel
theorem d_cu_valueAt_2 : decode c_cu_valueAt 2 = .ok (.getfield 21, 3) := by decide +kernel
theorem d_cu_valueAt_5 : decode c_cu_valueAt 5 = .ok (.ladd, 1) := by decide +kernel
theorem d_cu_valueAt_6 : decode c_cu_valueAt 6 = .ok (.lload_n 1, 1) := by decide +kernel
theorem d_cu_valueAt_7 : decode c_cu_valueAt 7 = .ok (.lmul, 1) := by decide +kernel
theorem d_cu_valueAt_8 : decode c_cu_valueAt 8 = .ok (.aload_n 0, 1) := by decide +kernel
theorem d_cu_valueAt_9 : decode c_cu_valueAt 9 = .ok (.getfield 25, 3) := by decide +kernel
theorem d_cu_valueAt_12 : decode c_cu_valueAt 12 = .ok (.ladd, 1) := by decide +kernel
theorem d_cu_valueAt_13 : decode c_cu_valueAt 13 = .ok (.lload_n 1, 1) := by decide +kernel
theorem d_cu_valueAt_14 : decode c_cu_valueAt 14 = .ok (.lmul, 1) := by decide +kernel
theorem d_cu_valueAt_15 : decode c_cu_valueAt 15 = .ok (.aload_n 0, 1) := by decide +kernel
theorem d_cu_valueAt_16 : decode c_cu_valueAt 16 = .ok (.getfield 28, 3) := by decide +kernel
theorem d_cu_valueAt_19 : decode c_cu_valueAt 19 = .ok (.ladd, 1) := by decide +kernel
theorem d_cu_valueAt_20 : decode c_cu_valueAt 20 = .ok (.lreturn, 1) := by decide +kernel
abbrev c_cu_steepnessAt : ByteArray := prog_2_method_5_code
def y_cu_steepnessAt : MethodName := { cls := "TorsionDesk$Cubic", name := "steepnessAt", desc := "(J)J" }
abbrev zs_cu_steepnessAt : List Cond := Cond.code y_cu_steepnessAt c_cu_steepnessAt 3 (some .long) :: zB
theorem d_cu_steepnessAt_0 : decode c_cu_steepnessAt 0 = .ok (.ldc2_w 38, 3) := by decide +kernel
theorem d_cu_steepnessAt_3 : decode c_cu_steepnessAt 3 = .ok (.lload_n 1, 1) := by decide +kernel
theorem d_cu_steepnessAt_4 : decode c_cu_steepnessAt 4 = .ok (.lmul, 1) := by decide +kernel
theorem d_cu_steepnessAt_5 : decode c_cu_steepnessAt 5 = .ok (.ldc2_w 40, 3) := by decide +kernel
theorem d_cu_steepnessAt_8 : decode c_cu_steepnessAt 8 = .ok (.aload_n 0, 1) := by decide +kernel
theorem d_cu_steepnessAt_9 : decode c_cu_steepnessAt 9 = .ok (.getfield 21, 3) := by decide +kernel
theorem d_cu_steepnessAt_12 : decode c_cu_steepnessAt 12 = .ok (.lmul, 1) := by decide +kernel
theorem d_cu_steepnessAt_13 : decode c_cu_steepnessAt 13 = .ok (.ladd, 1) := by decide +kernel
theorem d_cu_steepnessAt_14 : decode c_cu_steepnessAt 14 = .ok (.lload_n 1, 1) := by decide +kernel
theorem d_cu_steepnessAt_15 : decode c_cu_steepnessAt 15 = .ok (.lmul, 1) := by decide +kernel
theorem d_cu_steepnessAt_16 : decode c_cu_steepnessAt 16 = .ok (.aload_n 0, 1) := by decide +kernel
theorem d_cu_steepnessAt_17 : decode c_cu_steepnessAt 17 = .ok (.getfield 25, 3) := by decide +kernel
theorem d_cu_steepnessAt_20 : decode c_cu_steepnessAt 20 = .ok (.ladd, 1) := by decide +kernel
theorem d_cu_steepnessAt_21 : decode c_cu_steepnessAt 21 = .ok (.lreturn, 1) := by decide +kernel
abbrev c_cu_isGoodFor : ByteArray := prog_2_method_6_code
def y_cu_isGoodFor : MethodName := { cls := "TorsionDesk$Cubic", name := "isGoodFor", desc := "(I)Z" }
abbrev zs_cu_isGoodFor : List Cond := Cond.code y_cu_isGoodFor c_cu_isGoodFor 2 (some .boolean) :: zB
theorem d_cu_isGoodFor_0 : decode c_cu_isGoodFor 0 = .ok (.iload_n 1, 1) := by decide +kernel
theorem d_cu_isGoodFor_1 : decode c_cu_isGoodFor 1 = .ok (.ifCond .le 19, 3) := by decide +kernel
theorem d_cu_isGoodFor_4 : decode c_cu_isGoodFor 4 = .ok (.aload_n 0, 1) := by decide +kernel
theorem d_cu_isGoodFor_5 : decode c_cu_isGoodFor 5 = .ok (.getfield 35, 3) := by decide +kernel
theorem d_cu_isGoodFor_8 : decode c_cu_isGoodFor 8 = .ok (.iload_n 1, 1) := by decide +kernel
theorem d_cu_isGoodFor_9 : decode c_cu_isGoodFor 9 = .ok (.i2l, 1) := by decide +kernel
theorem d_cu_isGoodFor_10 : decode c_cu_isGoodFor 10 = .ok (.lrem, 1) := by decide +kernel
theorem d_cu_isGoodFor_11 : decode c_cu_isGoodFor 11 = .ok (.lconst 0, 1) := by decide +kernel
theorem d_cu_isGoodFor_12 : decode c_cu_isGoodFor 12 = .ok (.lcmp, 1) := by decide +kernel
theorem d_cu_isGoodFor_13 : decode c_cu_isGoodFor 13 = .ok (.ifCond .eq 7, 3) := by decide +kernel
theorem d_cu_isGoodFor_16 : decode c_cu_isGoodFor 16 = .ok (.iconst 1, 1) := by decide +kernel
theorem d_cu_isGoodFor_17 : decode c_cu_isGoodFor 17 = .ok (.goto 4, 3) := by decide +kernel
theorem d_cu_isGoodFor_20 : decode c_cu_isGoodFor 20 = .ok (.iconst 0, 1) := by decide +kernel
theorem d_cu_isGoodFor_21 : decode c_cu_isGoodFor 21 = .ok (.ireturn, 1) := by decide +kernel
abbrev c_cu_become : ByteArray := prog_2_method_3_code
def y_cu_become : MethodName := { cls := "TorsionDesk$Cubic", name := "become", desc := "(JJJ)V" }
abbrev zs_cu_become : List Cond := Cond.code y_cu_become c_cu_become 7 none :: zB
theorem d_cu_become_0 : decode c_cu_become 0 = .ok (.aload_n 0, 1) := by decide +kernel
theorem d_cu_become_1 : decode c_cu_become 1 = .ok (.lload_n 1, 1) := by decide +kernel
theorem d_cu_become_2 : decode c_cu_become 2 = .ok (.putfield 21, 3) := by decide +kernel
theorem d_cu_become_5 : decode c_cu_become 5 = .ok (.aload_n 0, 1) := by decide +kernel
theorem d_cu_become_6 : decode c_cu_become 6 = .ok (.lload_n 3, 1) := by decide +kernel
theorem d_cu_become_7 : decode c_cu_become 7 = .ok (.putfield 25, 3) := by decide +kernel
theorem d_cu_become_10 : decode c_cu_become 10 = .ok (.aload_n 0, 1) := by decide +kernel
theorem d_cu_become_11 : decode c_cu_become 11 = .ok (.lload 5, 2) := by decide +kernel
theorem d_cu_become_13 : decode c_cu_become 13 = .ok (.putfield 28, 3) := by decide +kernel
theorem d_cu_become_16 : decode c_cu_become 16 = .ok (.aload_n 0, 1) := by decide +kernel
theorem d_cu_become_17 : decode c_cu_become 17 = .ok (.lload_n 1, 1) := by decide +kernel
theorem d_cu_become_18 : decode c_cu_become 18 = .ok (.lload_n 3, 1) := by decide +kernel
theorem d_cu_become_19 : decode c_cu_become 19 = .ok (.lload 5, 2) := by decide +kernel
theorem d_cu_become_21 : decode c_cu_become 21 = .ok (.invokestatic 31, 3) := by decide +kernel
theorem d_cu_become_24 : decode c_cu_become 24 = .ok (.putfield 35, 3) := by decide +kernel
theorem d_cu_become_27 : decode c_cu_become 27 = .ok (.return_, 1) := by decide +kernel
abbrev c_fp_has : ByteArray := prog_3_method_2_code
def y_fp_has : MethodName := { cls := "TorsionDesk$FinitePoints", name := "has", desc := "(I)Z" }
abbrev zs_fp_has : List Cond := Cond.code y_fp_has c_fp_has 2 (some .boolean) :: zB
theorem d_fp_has_0 : decode c_fp_has 0 = .ok (.iload_n 1, 1) := by decide +kernel
theorem d_fp_has_1 : decode c_fp_has 1 = .ok (.ifCond .lt 15, 3) := by decide +kernel
theorem d_fp_has_4 : decode c_fp_has 4 = .ok (.iload_n 1, 1) := by decide +kernel
theorem d_fp_has_5 : decode c_fp_has 5 = .ok (.aload_n 0, 1) := by decide +kernel
theorem d_fp_has_6 : decode c_fp_has 6 = .ok (.getfield 21, 3) := by decide +kernel
theorem d_fp_has_9 : decode c_fp_has 9 = .ok (.if_icmp .ge 7, 3) := by decide +kernel
theorem d_fp_has_12 : decode c_fp_has 12 = .ok (.iconst 1, 1) := by decide +kernel
theorem d_fp_has_13 : decode c_fp_has 13 = .ok (.goto 4, 3) := by decide +kernel
theorem d_fp_has_16 : decode c_fp_has 16 = .ok (.iconst 0, 1) := by decide +kernel
theorem d_fp_has_17 : decode c_fp_has 17 = .ok (.ireturn, 1) := by decide +kernel
abbrev c_fp_numberOf : ByteArray := prog_3_method_8_code
def y_fp_numberOf : MethodName := { cls := "TorsionDesk$FinitePoints", name := "numberOf", desc := "(JJ)I" }
abbrev zs_fp_numberOf : List Cond := Cond.code y_fp_numberOf c_fp_numberOf 6 (some .int) :: zB
theorem d_fp_numberOf_0 : decode c_fp_numberOf 0 = .ok (.iconst 1, 1) := by decide +kernel
theorem d_fp_numberOf_1 : decode c_fp_numberOf 1 = .ok (.istore 5, 2) := by decide +kernel
theorem d_fp_numberOf_3 : decode c_fp_numberOf 3 = .ok (.iload 5, 2) := by decide +kernel
theorem d_fp_numberOf_5 : decode c_fp_numberOf 5 = .ok (.aload_n 0, 1) := by decide +kernel
theorem d_fp_numberOf_6 : decode c_fp_numberOf 6 = .ok (.getfield 21, 3) := by decide +kernel
theorem d_fp_numberOf_9 : decode c_fp_numberOf 9 = .ok (.if_icmp .ge 38, 3) := by decide +kernel
theorem d_fp_numberOf_12 : decode c_fp_numberOf 12 = .ok (.aload_n 0, 1) := by decide +kernel
theorem d_fp_numberOf_13 : decode c_fp_numberOf 13 = .ok (.getfield 11, 3) := by decide +kernel
theorem d_fp_numberOf_16 : decode c_fp_numberOf 16 = .ok (.iload 5, 2) := by decide +kernel
theorem d_fp_numberOf_18 : decode c_fp_numberOf 18 = .ok (.iaload, 1) := by decide +kernel
theorem d_fp_numberOf_19 : decode c_fp_numberOf 19 = .ok (.i2l, 1) := by decide +kernel
theorem d_fp_numberOf_20 : decode c_fp_numberOf 20 = .ok (.lload_n 1, 1) := by decide +kernel
theorem d_fp_numberOf_21 : decode c_fp_numberOf 21 = .ok (.lcmp, 1) := by decide +kernel
theorem d_fp_numberOf_22 : decode c_fp_numberOf 22 = .ok (.ifCond .ne 19, 3) := by decide +kernel
theorem d_fp_numberOf_25 : decode c_fp_numberOf 25 = .ok (.aload_n 0, 1) := by decide +kernel
theorem d_fp_numberOf_26 : decode c_fp_numberOf 26 = .ok (.getfield 15, 3) := by decide +kernel
theorem d_fp_numberOf_29 : decode c_fp_numberOf 29 = .ok (.iload 5, 2) := by decide +kernel
theorem d_fp_numberOf_31 : decode c_fp_numberOf 31 = .ok (.iaload, 1) := by decide +kernel
theorem d_fp_numberOf_32 : decode c_fp_numberOf 32 = .ok (.i2l, 1) := by decide +kernel
theorem d_fp_numberOf_33 : decode c_fp_numberOf 33 = .ok (.lload_n 3, 1) := by decide +kernel
theorem d_fp_numberOf_34 : decode c_fp_numberOf 34 = .ok (.lcmp, 1) := by decide +kernel
theorem d_fp_numberOf_35 : decode c_fp_numberOf 35 = .ok (.ifCond .ne 6, 3) := by decide +kernel
theorem d_fp_numberOf_38 : decode c_fp_numberOf 38 = .ok (.iload 5, 2) := by decide +kernel
theorem d_fp_numberOf_40 : decode c_fp_numberOf 40 = .ok (.ireturn, 1) := by decide +kernel
theorem d_fp_numberOf_41 : decode c_fp_numberOf 41 = .ok (.iinc 5 1, 3) := by decide +kernel
theorem d_fp_numberOf_44 : decode c_fp_numberOf 44 = .ok (.goto (-41), 3) := by decide +kernel
theorem d_fp_numberOf_47 : decode c_fp_numberOf 47 = .ok (.iconst (-1), 1) := by decide +kernel
theorem d_fp_numberOf_48 : decode c_fp_numberOf 48 = .ok (.ireturn, 1) := by decide +kernel
abbrev c_fp_added : ByteArray := prog_3_method_9_code
def y_fp_added : MethodName := { cls := "TorsionDesk$FinitePoints", name := "added", desc := "(LTorsionDesk$Cubic;II)I" }
abbrev zs_fp_added : List Cond := Cond.code y_fp_added c_fp_added 17 (some .int) :: zB
theorem d_fp_added_0 : decode c_fp_added 0 = .ok (.aload_n 0, 1) := by decide +kernel
theorem d_fp_added_1 : decode c_fp_added 1 = .ok (.iload_n 2, 1) := by decide +kernel
theorem d_fp_added_2 : decode c_fp_added 2 = .ok (.invokevirtual 60, 3) := by decide +kernel
theorem d_fp_added_5 : decode c_fp_added 5 = .ok (.ifCond .eq 11, 3) := by decide +kernel
theorem d_fp_added_8 : decode c_fp_added 8 = .ok (.aload_n 0, 1) := by decide +kernel
theorem d_fp_added_9 : decode c_fp_added 9 = .ok (.iload_n 3, 1) := by decide +kernel
theorem d_fp_added_10 : decode c_fp_added 10 = .ok (.invokevirtual 60, 3) := by decide +kernel
theorem d_fp_added_13 : decode c_fp_added 13 = .ok (.ifCond .ne 5, 3) := by decide +kernel
theorem d_fp_added_16 : decode c_fp_added 16 = .ok (.iconst (-1), 1) := by decide +kernel
theorem d_fp_added_17 : decode c_fp_added 17 = .ok (.ireturn, 1) := by decide +kernel
theorem d_fp_added_18 : decode c_fp_added 18 = .ok (.iload_n 2, 1) := by decide +kernel
theorem d_fp_added_19 : decode c_fp_added 19 = .ok (.ifCond .eq 7, 3) := by decide +kernel
theorem d_fp_added_22 : decode c_fp_added 22 = .ok (.iload_n 3, 1) := by decide +kernel
theorem d_fp_added_23 : decode c_fp_added 23 = .ok (.ifCond .ne 7, 3) := by decide +kernel
theorem d_fp_added_26 : decode c_fp_added 26 = .ok (.iload_n 2, 1) := by decide +kernel
theorem d_fp_added_27 : decode c_fp_added 27 = .ok (.iload_n 3, 1) := by decide +kernel
theorem d_fp_added_28 : decode c_fp_added 28 = .ok (.iadd, 1) := by decide +kernel
theorem d_fp_added_29 : decode c_fp_added 29 = .ok (.ireturn, 1) := by decide +kernel
theorem d_fp_added_30 : decode c_fp_added 30 = .ok (.aload_n 0, 1) := by decide +kernel
theorem d_fp_added_31 : decode c_fp_added 31 = .ok (.getfield 11, 3) := by decide +kernel
theorem d_fp_added_34 : decode c_fp_added 34 = .ok (.iload_n 2, 1) := by decide +kernel
theorem d_fp_added_35 : decode c_fp_added 35 = .ok (.iaload, 1) := by decide +kernel
theorem d_fp_added_36 : decode c_fp_added 36 = .ok (.i2l, 1) := by decide +kernel
theorem d_fp_added_37 : decode c_fp_added 37 = .ok (.lstore 4, 2) := by decide +kernel
theorem d_fp_added_39 : decode c_fp_added 39 = .ok (.aload_n 0, 1) := by decide +kernel
theorem d_fp_added_40 : decode c_fp_added 40 = .ok (.getfield 15, 3) := by decide +kernel
theorem d_fp_added_43 : decode c_fp_added 43 = .ok (.iload_n 2, 1) := by decide +kernel
theorem d_fp_added_44 : decode c_fp_added 44 = .ok (.iaload, 1) := by decide +kernel
theorem d_fp_added_45 : decode c_fp_added 45 = .ok (.i2l, 1) := by decide +kernel
theorem d_fp_added_46 : decode c_fp_added 46 = .ok (.lstore 6, 2) := by decide +kernel
theorem d_fp_added_48 : decode c_fp_added 48 = .ok (.aload_n 0, 1) := by decide +kernel
theorem d_fp_added_49 : decode c_fp_added 49 = .ok (.getfield 11, 3) := by decide +kernel
theorem d_fp_added_52 : decode c_fp_added 52 = .ok (.iload_n 3, 1) := by decide +kernel
theorem d_fp_added_53 : decode c_fp_added 53 = .ok (.iaload, 1) := by decide +kernel
theorem d_fp_added_54 : decode c_fp_added 54 = .ok (.i2l, 1) := by decide +kernel
theorem d_fp_added_55 : decode c_fp_added 55 = .ok (.lload 4, 2) := by decide +kernel
theorem d_fp_added_57 : decode c_fp_added 57 = .ok (.lcmp, 1) := by decide +kernel
theorem d_fp_added_58 : decode c_fp_added 58 = .ok (.ifCond .ne 7, 3) := by decide +kernel
theorem d_fp_added_61 : decode c_fp_added 61 = .ok (.iconst 1, 1) := by decide +kernel
theorem d_fp_added_62 : decode c_fp_added 62 = .ok (.goto 4, 3) := by decide +kernel
theorem d_fp_added_65 : decode c_fp_added 65 = .ok (.iconst 0, 1) := by decide +kernel
theorem d_fp_added_66 : decode c_fp_added 66 = .ok (.istore 8, 2) := by decide +kernel
theorem d_fp_added_68 : decode c_fp_added 68 = .ok (.iload 8, 2) := by decide +kernel
theorem d_fp_added_70 : decode c_fp_added 70 = .ok (.ifCond .eq 19, 3) := by decide +kernel
theorem d_fp_added_73 : decode c_fp_added 73 = .ok (.aload_n 0, 1) := by decide +kernel
theorem d_fp_added_74 : decode c_fp_added 74 = .ok (.getfield 15, 3) := by decide +kernel
theorem d_fp_added_77 : decode c_fp_added 77 = .ok (.iload_n 3, 1) := by decide +kernel
theorem d_fp_added_78 : decode c_fp_added 78 = .ok (.iaload, 1) := by decide +kernel
theorem d_fp_added_79 : decode c_fp_added 79 = .ok (.i2l, 1) := by decide +kernel
theorem d_fp_added_80 : decode c_fp_added 80 = .ok (.lload 6, 2) := by decide +kernel
theorem d_fp_added_82 : decode c_fp_added 82 = .ok (.lneg, 1) := by decide +kernel
theorem d_fp_added_83 : decode c_fp_added 83 = .ok (.lcmp, 1) := by decide +kernel
theorem d_fp_added_84 : decode c_fp_added 84 = .ok (.ifCond .ne 5, 3) := by decide +kernel
theorem d_fp_added_87 : decode c_fp_added 87 = .ok (.iconst 0, 1) := by decide +kernel
theorem d_fp_added_88 : decode c_fp_added 88 = .ok (.ireturn, 1) := by decide +kernel
theorem d_fp_added_89 : decode c_fp_added 89 = .ok (.iload 8, 2) := by decide +kernel
theorem d_fp_added_91 : decode c_fp_added 91 = .ok (.ifCond .eq 12, 3) := by decide +kernel
theorem d_fp_added_94 : decode c_fp_added 94 = .ok (.aload_n 1, 1) := by decide +kernel
theorem d_fp_added_95 : decode c_fp_added 95 = .ok (.lload 4, 2) := by decide +kernel
theorem d_fp_added_97 : decode c_fp_added 97 = .ok (.invokevirtual 64, 3) := by decide +kernel
theorem d_fp_added_100 : decode c_fp_added 100 = .ok (.goto 13, 3) := by decide +kernel
theorem d_fp_added_103 : decode c_fp_added 103 = .ok (.aload_n 0, 1) := by decide +kernel
theorem d_fp_added_104 : decode c_fp_added 104 = .ok (.getfield 15, 3) := by decide +kernel
theorem d_fp_added_107 : decode c_fp_added 107 = .ok (.iload_n 3, 1) := by decide +kernel
theorem d_fp_added_108 : decode c_fp_added 108 = .ok (.iaload, 1) := by decide +kernel
theorem d_fp_added_109 : decode c_fp_added 109 = .ok (.i2l, 1) := by decide +kernel
theorem d_fp_added_110 : decode c_fp_added 110 = .ok (.lload 6, 2) := by decide +kernel
theorem d_fp_added_112 : decode c_fp_added 112 = .ok (.lsub, 1) := by decide +kernel
theorem d_fp_added_113 : decode c_fp_added 113 = .ok (.lstore 9, 2) := by decide +kernel
theorem d_fp_added_115 : decode c_fp_added 115 = .ok (.iload 8, 2) := by decide +kernel
theorem d_fp_added_117 : decode c_fp_added 117 = .ok (.ifCond .eq 12, 3) := by decide +kernel
theorem d_fp_added_120 : decode c_fp_added 120 = .ok (.ldc2_w 67, 3) := by decide +kernel
theorem d_fp_added_123 : decode c_fp_added 123 = .ok (.lload 6, 2) := by decide +kernel
theorem d_fp_added_125 : decode c_fp_added 125 = .ok (.lmul, 1) := by decide +kernel
theorem d_fp_added_126 : decode c_fp_added 126 = .ok (.goto 13, 3) := by decide +kernel
theorem d_fp_added_129 : decode c_fp_added 129 = .ok (.aload_n 0, 1) := by decide +kernel
theorem d_fp_added_130 : decode c_fp_added 130 = .ok (.getfield 11, 3) := by decide +kernel
theorem d_fp_added_133 : decode c_fp_added 133 = .ok (.iload_n 3, 1) := by decide +kernel
theorem d_fp_added_134 : decode c_fp_added 134 = .ok (.iaload, 1) := by decide +kernel
theorem d_fp_added_135 : decode c_fp_added 135 = .ok (.i2l, 1) := by decide +kernel
theorem d_fp_added_136 : decode c_fp_added 136 = .ok (.lload 4, 2) := by decide +kernel
theorem d_fp_added_138 : decode c_fp_added 138 = .ok (.lsub, 1) := by decide +kernel
theorem d_fp_added_139 : decode c_fp_added 139 = .ok (.lstore 11, 2) := by decide +kernel
theorem d_fp_added_141 : decode c_fp_added 141 = .ok (.lload 11, 2) := by decide +kernel
theorem d_fp_added_143 : decode c_fp_added 143 = .ok (.lconst 0, 1) := by decide +kernel
theorem d_fp_added_144 : decode c_fp_added 144 = .ok (.lcmp, 1) := by decide +kernel
theorem d_fp_added_145 : decode c_fp_added 145 = .ok (.ifCond .eq 13, 3) := by decide +kernel
theorem d_fp_added_148 : decode c_fp_added 148 = .ok (.lload 9, 2) := by decide +kernel
theorem d_fp_added_150 : decode c_fp_added 150 = .ok (.lload 11, 2) := by decide +kernel
theorem d_fp_added_152 : decode c_fp_added 152 = .ok (.lrem, 1) := by decide +kernel
theorem d_fp_added_153 : decode c_fp_added 153 = .ok (.lconst 0, 1) := by decide +kernel
theorem d_fp_added_154 : decode c_fp_added 154 = .ok (.lcmp, 1) := by decide +kernel
theorem d_fp_added_155 : decode c_fp_added 155 = .ok (.ifCond .eq 5, 3) := by decide +kernel
theorem d_fp_added_158 : decode c_fp_added 158 = .ok (.iconst (-1), 1) := by decide +kernel
theorem d_fp_added_159 : decode c_fp_added 159 = .ok (.ireturn, 1) := by decide +kernel
theorem d_fp_added_160 : decode c_fp_added 160 = .ok (.lload 9, 2) := by decide +kernel
theorem d_fp_added_162 : decode c_fp_added 162 = .ok (.lload 11, 2) := by decide +kernel
theorem d_fp_added_164 : decode c_fp_added 164 = .ok (.ldiv, 1) := by decide +kernel
theorem d_fp_added_165 : decode c_fp_added 165 = .ok (.lstore 13, 2) := by decide +kernel
theorem d_fp_added_167 : decode c_fp_added 167 = .ok (.lload 13, 2) := by decide +kernel
theorem d_fp_added_169 : decode c_fp_added 169 = .ok (.lload 13, 2) := by decide +kernel
theorem d_fp_added_171 : decode c_fp_added 171 = .ok (.lmul, 1) := by decide +kernel
theorem d_fp_added_172 : decode c_fp_added 172 = .ok (.aload_n 1, 1) := by decide +kernel
theorem d_fp_added_173 : decode c_fp_added 173 = .ok (.getfield 69, 3) := by decide +kernel
theorem d_fp_added_176 : decode c_fp_added 176 = .ok (.lsub, 1) := by decide +kernel
theorem d_fp_added_177 : decode c_fp_added 177 = .ok (.lload 4, 2) := by decide +kernel
theorem d_fp_added_179 : decode c_fp_added 179 = .ok (.lsub, 1) := by decide +kernel
theorem d_fp_added_180 : decode c_fp_added 180 = .ok (.aload_n 0, 1) := by decide +kernel
theorem d_fp_added_181 : decode c_fp_added 181 = .ok (.getfield 11, 3) := by decide +kernel
theorem d_fp_added_184 : decode c_fp_added 184 = .ok (.iload_n 3, 1) := by decide +kernel
theorem d_fp_added_185 : decode c_fp_added 185 = .ok (.iaload, 1) := by decide +kernel
theorem d_fp_added_186 : decode c_fp_added 186 = .ok (.i2l, 1) := by decide +kernel
theorem d_fp_added_187 : decode c_fp_added 187 = .ok (.lsub, 1) := by decide +kernel
theorem d_fp_added_188 : decode c_fp_added 188 = .ok (.lstore 15, 2) := by decide +kernel
theorem d_fp_added_190 : decode c_fp_added 190 = .ok (.aload_n 0, 1) := by decide +kernel
theorem d_fp_added_191 : decode c_fp_added 191 = .ok (.lload 15, 2) := by decide +kernel
theorem d_fp_added_193 : decode c_fp_added 193 = .ok (.lload 6, 2) := by decide +kernel
theorem d_fp_added_195 : decode c_fp_added 195 = .ok (.lload 13, 2) := by decide +kernel
theorem d_fp_added_197 : decode c_fp_added 197 = .ok (.lload 15, 2) := by decide +kernel
theorem d_fp_added_199 : decode c_fp_added 199 = .ok (.lload 4, 2) := by decide +kernel
theorem d_fp_added_201 : decode c_fp_added 201 = .ok (.lsub, 1) := by decide +kernel
theorem d_fp_added_202 : decode c_fp_added 202 = .ok (.lmul, 1) := by decide +kernel
theorem d_fp_added_203 : decode c_fp_added 203 = .ok (.ladd, 1) := by decide +kernel
theorem d_fp_added_204 : decode c_fp_added 204 = .ok (.lneg, 1) := by decide +kernel
theorem d_fp_added_205 : decode c_fp_added 205 = .ok (.invokevirtual 72, 3) := by decide +kernel
theorem d_fp_added_208 : decode c_fp_added 208 = .ok (.ireturn, 1) := by decide +kernel
abbrev c_fp_append : ByteArray := prog_3_method_5_code
def y_fp_append : MethodName := { cls := "TorsionDesk$FinitePoints", name := "append", desc := "(II)V" }
abbrev zs_fp_append : List Cond := Cond.code y_fp_append c_fp_append 3 none :: zB
theorem d_fp_append_0 : decode c_fp_append 0 = .ok (.aload_n 0, 1) := by decide +kernel
theorem d_fp_append_1 : decode c_fp_append 1 = .ok (.getfield 21, 3) := by decide +kernel
theorem d_fp_append_4 : decode c_fp_append 4 = .ok (.bipush 32, 2) := by decide +kernel
theorem d_fp_append_6 : decode c_fp_append 6 = .ok (.if_icmp .ge 33, 3) := by decide +kernel
theorem d_fp_append_9 : decode c_fp_append 9 = .ok (.aload_n 0, 1) := by decide +kernel
theorem d_fp_append_10 : decode c_fp_append 10 = .ok (.getfield 11, 3) := by decide +kernel
theorem d_fp_append_13 : decode c_fp_append 13 = .ok (.aload_n 0, 1) := by decide +kernel
theorem d_fp_append_14 : decode c_fp_append 14 = .ok (.getfield 21, 3) := by decide +kernel
theorem d_fp_append_17 : decode c_fp_append 17 = .ok (.iload_n 1, 1) := by decide +kernel
theorem d_fp_append_18 : decode c_fp_append 18 = .ok (.iastore, 1) := by decide +kernel
theorem d_fp_append_19 : decode c_fp_append 19 = .ok (.aload_n 0, 1) := by decide +kernel
theorem d_fp_append_20 : decode c_fp_append 20 = .ok (.getfield 15, 3) := by decide +kernel
theorem d_fp_append_23 : decode c_fp_append 23 = .ok (.aload_n 0, 1) := by decide +kernel
theorem d_fp_append_24 : decode c_fp_append 24 = .ok (.getfield 21, 3) := by decide +kernel
theorem d_fp_append_27 : decode c_fp_append 27 = .ok (.iload_n 2, 1) := by decide +kernel
theorem d_fp_append_28 : decode c_fp_append 28 = .ok (.iastore, 1) := by decide +kernel
theorem d_fp_append_29 : decode c_fp_append 29 = .ok (.aload_n 0, 1) := by decide +kernel
theorem d_fp_append_30 : decode c_fp_append 30 = .ok (.dup, 1) := by decide +kernel
theorem d_fp_append_31 : decode c_fp_append 31 = .ok (.getfield 21, 3) := by decide +kernel
theorem d_fp_append_34 : decode c_fp_append 34 = .ok (.iconst 1, 1) := by decide +kernel
theorem d_fp_append_35 : decode c_fp_append 35 = .ok (.iadd, 1) := by decide +kernel
theorem d_fp_append_36 : decode c_fp_append 36 = .ok (.putfield 21, 3) := by decide +kernel
theorem d_fp_append_39 : decode c_fp_append 39 = .ok (.return_, 1) := by decide +kernel
abbrev c_fp_orderOf : ByteArray := prog_3_method_6_code
def y_fp_orderOf : MethodName := { cls := "TorsionDesk$FinitePoints", name := "orderOf", desc := "(LTorsionDesk$Cubic;I)I" }
abbrev zs_fp_orderOf : List Cond := Cond.code y_fp_orderOf c_fp_orderOf 5 (some .int) :: zB
theorem d_fp_orderOf_0 : decode c_fp_orderOf 0 = .ok (.iload_n 2, 1) := by decide +kernel
theorem d_fp_orderOf_1 : decode c_fp_orderOf 1 = .ok (.istore_n 3, 1) := by decide +kernel
theorem d_fp_orderOf_2 : decode c_fp_orderOf 2 = .ok (.iconst 1, 1) := by decide +kernel
theorem d_fp_orderOf_3 : decode c_fp_orderOf 3 = .ok (.istore 4, 2) := by decide +kernel
theorem d_fp_orderOf_5 : decode c_fp_orderOf 5 = .ok (.iload 4, 2) := by decide +kernel
theorem d_fp_orderOf_7 : decode c_fp_orderOf 7 = .ok (.bipush 12, 2) := by decide +kernel
theorem d_fp_orderOf_9 : decode c_fp_orderOf 9 = .ok (.if_icmp .gt 24, 3) := by decide +kernel
theorem d_fp_orderOf_12 : decode c_fp_orderOf 12 = .ok (.iload_n 3, 1) := by decide +kernel
theorem d_fp_orderOf_13 : decode c_fp_orderOf 13 = .ok (.ifCond .ne 6, 3) := by decide +kernel
theorem d_fp_orderOf_16 : decode c_fp_orderOf 16 = .ok (.iload 4, 2) := by decide +kernel
theorem d_fp_orderOf_18 : decode c_fp_orderOf 18 = .ok (.ireturn, 1) := by decide +kernel
theorem d_fp_orderOf_19 : decode c_fp_orderOf 19 = .ok (.aload_n 0, 1) := by decide +kernel
theorem d_fp_orderOf_20 : decode c_fp_orderOf 20 = .ok (.aload_n 1, 1) := by decide +kernel
theorem d_fp_orderOf_21 : decode c_fp_orderOf 21 = .ok (.iload_n 3, 1) := by decide +kernel
theorem d_fp_orderOf_22 : decode c_fp_orderOf 22 = .ok (.iload_n 2, 1) := by decide +kernel
theorem d_fp_orderOf_23 : decode c_fp_orderOf 23 = .ok (.invokevirtual 56, 3) := by decide +kernel
theorem d_fp_orderOf_26 : decode c_fp_orderOf 26 = .ok (.istore_n 3, 1) := by decide +kernel
theorem d_fp_orderOf_27 : decode c_fp_orderOf 27 = .ok (.iinc 4 1, 3) := by decide +kernel
theorem d_fp_orderOf_30 : decode c_fp_orderOf 30 = .ok (.goto (-25), 3) := by decide +kernel
theorem d_fp_orderOf_33 : decode c_fp_orderOf 33 = .ok (.iconst (-1), 1) := by decide +kernel
theorem d_fp_orderOf_34 : decode c_fp_orderOf 34 = .ok (.ireturn, 1) := by decide +kernel
theorem zw_2 : (Jvm.Cond.initialized "TorsionDesk$Cubic") ∈ zB := zB1 (List.mem_append_left _ (List.mem_of_getElem? (i := 2) rfl)) rfl
theorem zw_4 : (Jvm.Cond.initialized "TorsionDesk$FinitePoints") ∈ zB := zB1 (List.mem_append_left _ (List.mem_of_getElem? (i := 4) rfl)) rfl
theorem zw_28 : (Jvm.Cond.fieldLink "TorsionDesk$Cubic" (21 : Nat) "TorsionDesk$Cubic" "square" "J") ∈ zB := zB1 (List.mem_append_left _ (List.mem_of_getElem? (i := 28) rfl)) rfl
theorem zw_29 : (Jvm.Cond.fieldLink "TorsionDesk$FinitePoints" (69 : Nat) "TorsionDesk$Cubic" "square" "J") ∈ zB := zB1 (List.mem_append_left _ (List.mem_of_getElem? (i := 29) rfl)) rfl
theorem zw_30 : (Jvm.Cond.fieldLink "TorsionDesk$Cubic" (25 : Nat) "TorsionDesk$Cubic" "linear" "J") ∈ zB := zB1 (List.mem_append_left _ (List.mem_of_getElem? (i := 30) rfl)) rfl
theorem zw_31 : (Jvm.Cond.fieldLink "TorsionDesk$Cubic" (28 : Nat) "TorsionDesk$Cubic" "constant" "J") ∈ zB := zB1 (List.mem_append_left _ (List.mem_of_getElem? (i := 31) rfl)) rfl
theorem zw_33 : (Jvm.Cond.fieldLink "TorsionDesk$Cubic" (35 : Nat) "TorsionDesk$Cubic" "discriminant" "J") ∈ zB := zB1 (List.mem_append_left _ (List.mem_of_getElem? (i := 33) rfl)) rfl
theorem zw_35 : (Jvm.Cond.lays "TorsionDesk$Cubic" "TorsionDesk$Cubic" "square" "J") ∈ zB := zB1 (List.mem_append_left _ (List.mem_of_getElem? (i := 35) rfl)) rfl
theorem zw_37 : (Jvm.Cond.lays "TorsionDesk$Cubic" "TorsionDesk$Cubic" "linear" "J") ∈ zB := zB1 (List.mem_append_left _ (List.mem_of_getElem? (i := 37) rfl)) rfl
theorem zw_39 : (Jvm.Cond.lays "TorsionDesk$Cubic" "TorsionDesk$Cubic" "constant" "J") ∈ zB := zB1 (List.mem_append_left _ (List.mem_of_getElem? (i := 39) rfl)) rfl
theorem zw_41 : (Jvm.Cond.lays "TorsionDesk$Cubic" "TorsionDesk$Cubic" "discriminant" "J") ∈ zB := zB1 (List.mem_append_left _ (List.mem_of_getElem? (i := 41) rfl)) rfl
theorem zw_43 : (Jvm.Cond.laysFinal "TorsionDesk$Cubic" "TorsionDesk$Cubic" "rootCounts" "[I") ∈ zB := zB1 (List.mem_append_left _ (List.mem_of_getElem? (i := 43) rfl)) rfl
theorem zw_59 : (Jvm.Cond.laysFinal "TorsionDesk$SquareDivisors" "TorsionDesk$SquareDivisors" "row" "[I") ∈ zB := zB1 (List.mem_append_left _ (List.mem_of_getElem? (i := 59) rfl)) rfl
theorem zw_61 : (Jvm.Cond.lays "TorsionDesk$SquareDivisors" "TorsionDesk$SquareDivisors" "size" "I") ∈ zB := zB1 (List.mem_append_left _ (List.mem_of_getElem? (i := 61) rfl)) rfl
theorem zw_63 : (Jvm.Cond.lays "TorsionDesk$SquareDivisors" "TorsionDesk$SquareDivisors" "largestSquare" "J") ∈ zB := zB1 (List.mem_append_left _ (List.mem_of_getElem? (i := 63) rfl)) rfl
theorem zw_72 : (Jvm.Cond.fieldLink "TorsionDesk$FinitePoints" (11 : Nat) "TorsionDesk$FinitePoints" "xs" "[I") ∈ zB := zB1 (List.mem_append_left _ (List.mem_of_getElem? (i := 72) rfl)) rfl
theorem zw_74 : (Jvm.Cond.fieldLink "TorsionDesk$FinitePoints" (15 : Nat) "TorsionDesk$FinitePoints" "ys" "[I") ∈ zB := zB1 (List.mem_append_left _ (List.mem_of_getElem? (i := 74) rfl)) rfl
theorem zw_78 : (Jvm.Cond.fieldLink "TorsionDesk$FinitePoints" (21 : Nat) "TorsionDesk$FinitePoints" "size" "I") ∈ zB := zB1 (List.mem_append_left _ (List.mem_of_getElem? (i := 78) rfl)) rfl
theorem zw_80 : (Jvm.Cond.laysFinal "TorsionDesk$FinitePoints" "TorsionDesk$FinitePoints" "xs" "[I") ∈ zB := zB1 (List.mem_append_left _ (List.mem_of_getElem? (i := 80) rfl)) rfl
theorem zw_82 : (Jvm.Cond.laysFinal "TorsionDesk$FinitePoints" "TorsionDesk$FinitePoints" "ys" "[I") ∈ zB := zB1 (List.mem_append_left _ (List.mem_of_getElem? (i := 82) rfl)) rfl
theorem zw_84 : (Jvm.Cond.laysFinal "TorsionDesk$FinitePoints" "TorsionDesk$FinitePoints" "orders" "[I") ∈ zB := zB1 (List.mem_append_left _ (List.mem_of_getElem? (i := 84) rfl)) rfl
theorem zw_86 : (Jvm.Cond.lays "TorsionDesk$FinitePoints" "TorsionDesk$FinitePoints" "size" "I") ∈ zB := zB1 (List.mem_append_left _ (List.mem_of_getElem? (i := 86) rfl)) rfl
theorem zw_95 : (Jvm.Cond.laysFinal "TorsionDesk" "TorsionDesk" "cubic" "LTorsionDesk$Cubic;") ∈ zB := zB1 (List.mem_append_left _ (List.mem_of_getElem? (i := 95) rfl)) rfl
theorem zw_97 : (Jvm.Cond.laysFinal "TorsionDesk" "TorsionDesk" "divisors" "LTorsionDesk$SquareDivisors;") ∈ zB := zB1 (List.mem_append_left _ (List.mem_of_getElem? (i := 97) rfl)) rfl
theorem zw_99 : (Jvm.Cond.laysFinal "TorsionDesk" "TorsionDesk" "finite" "LTorsionDesk$FinitePoints;") ∈ zB := zB1 (List.mem_append_left _ (List.mem_of_getElem? (i := 99) rfl)) rfl
theorem zw_101 : (Jvm.Cond.lays "TorsionDesk" "TorsionDesk" "hasCurve" "Z") ∈ zB := zB1 (List.mem_append_left _ (List.mem_of_getElem? (i := 101) rfl)) rfl
theorem zw_103 : (Jvm.Cond.lays "TorsionDesk" "TorsionDesk" "a" "I") ∈ zB := zB1 (List.mem_append_left _ (List.mem_of_getElem? (i := 103) rfl)) rfl
theorem zw_105 : (Jvm.Cond.lays "TorsionDesk" "TorsionDesk" "c" "I") ∈ zB := zB1 (List.mem_append_left _ (List.mem_of_getElem? (i := 105) rfl)) rfl
theorem zw_125 : (Jvm.Cond.instanceMethod ({ cls := "TorsionDesk$FinitePoints", name := "has", desc := "(I)Z" } : Jvm.MethodName)) ∈ zB := zB1 (List.mem_append_left _ (List.mem_of_getElem? (i := 125) rfl)) rfl
theorem zw_126 : (Jvm.Cond.selects "TorsionDesk$FinitePoints" ({ cls := "TorsionDesk$FinitePoints", name := "has", desc := "(I)Z" } : Jvm.MethodName) ({ cls := "TorsionDesk$FinitePoints", name := "has", desc := "(I)Z" } : Jvm.MethodName)) ∈ zB := zB1 (List.mem_append_left _ (List.mem_of_getElem? (i := 126) rfl)) rfl
theorem zw_127 : (Jvm.Cond.code ({ cls := "TorsionDesk$FinitePoints", name := "has", desc := "(I)Z" } : Jvm.MethodName) prog_3_method_2_code (2 : Nat) (Option.some Jvm.ClassFile.FieldType.boolean)) ∈ zB := zB1 (List.mem_append_left _ (List.mem_of_getElem? (i := 127) rfl)) rfl
theorem zw_136 : (Jvm.Cond.instanceMethod ({ cls := "TorsionDesk$FinitePoints", name := "numberOf", desc := "(JJ)I" } : Jvm.MethodName)) ∈ zB := zB1 (List.mem_append_left _ (List.mem_of_getElem? (i := 136) rfl)) rfl
theorem zw_137 : (Jvm.Cond.selects "TorsionDesk$FinitePoints" ({ cls := "TorsionDesk$FinitePoints", name := "numberOf", desc := "(JJ)I" } : Jvm.MethodName) ({ cls := "TorsionDesk$FinitePoints", name := "numberOf", desc := "(JJ)I" } : Jvm.MethodName)) ∈ zB := zB1 (List.mem_append_left _ (List.mem_of_getElem? (i := 137) rfl)) rfl
theorem zw_138 : (Jvm.Cond.code ({ cls := "TorsionDesk$FinitePoints", name := "numberOf", desc := "(JJ)I" } : Jvm.MethodName) prog_3_method_8_code (6 : Nat) (Option.some Jvm.ClassFile.FieldType.int)) ∈ zB := zB1 (List.mem_append_left _ (List.mem_of_getElem? (i := 138) rfl)) rfl
theorem zw_144 : (Jvm.Cond.instanceMethod ({ cls := "TorsionDesk$FinitePoints", name := "added", desc := "(LTorsionDesk$Cubic;II)I" } : Jvm.MethodName)) ∈ zB := zB1 (List.mem_append_left _ (List.mem_of_getElem? (i := 144) rfl)) rfl
theorem zw_145 : (Jvm.Cond.selects "TorsionDesk$FinitePoints" ({ cls := "TorsionDesk$FinitePoints", name := "added", desc := "(LTorsionDesk$Cubic;II)I" } : Jvm.MethodName) ({ cls := "TorsionDesk$FinitePoints", name := "added", desc := "(LTorsionDesk$Cubic;II)I" } : Jvm.MethodName)) ∈ zB := zB1 (List.mem_append_left _ (List.mem_of_getElem? (i := 145) rfl)) rfl
theorem zw_146 : (Jvm.Cond.code ({ cls := "TorsionDesk$FinitePoints", name := "added", desc := "(LTorsionDesk$Cubic;II)I" } : Jvm.MethodName) prog_3_method_9_code (17 : Nat) (Option.some Jvm.ClassFile.FieldType.int)) ∈ zB := zB1 (List.mem_append_left _ (List.mem_of_getElem? (i := 146) rfl)) rfl
theorem zw_147 : (Jvm.Cond.methodLink "TorsionDesk$FinitePoints" (60 : Nat) ({ cls := "TorsionDesk$FinitePoints", name := "has", desc := "(I)Z" } : Jvm.MethodName)) ∈ zB := zB1 (List.mem_append_left _ (List.mem_of_getElem? (i := 147) rfl)) rfl
theorem zw_148 : (Jvm.Cond.methodLink "TorsionDesk$FinitePoints" (64 : Nat) ({ cls := "TorsionDesk$Cubic", name := "steepnessAt", desc := "(J)J" } : Jvm.MethodName)) ∈ zB := zB1 (List.mem_append_left _ (List.mem_of_getElem? (i := 148) rfl)) rfl
theorem zw_149 : (Jvm.Cond.instanceMethod ({ cls := "TorsionDesk$Cubic", name := "steepnessAt", desc := "(J)J" } : Jvm.MethodName)) ∈ zB := zB1 (List.mem_append_left _ (List.mem_of_getElem? (i := 149) rfl)) rfl
theorem zw_150 : (Jvm.Cond.selects "TorsionDesk$Cubic" ({ cls := "TorsionDesk$Cubic", name := "steepnessAt", desc := "(J)J" } : Jvm.MethodName) ({ cls := "TorsionDesk$Cubic", name := "steepnessAt", desc := "(J)J" } : Jvm.MethodName)) ∈ zB := zB1 (List.mem_append_left _ (List.mem_of_getElem? (i := 150) rfl)) rfl
theorem zw_151 : (Jvm.Cond.code ({ cls := "TorsionDesk$Cubic", name := "steepnessAt", desc := "(J)J" } : Jvm.MethodName) prog_2_method_5_code (3 : Nat) (Option.some Jvm.ClassFile.FieldType.long)) ∈ zB := zB1 (List.mem_append_left _ (List.mem_of_getElem? (i := 151) rfl)) rfl
theorem zw_152 : (Jvm.Cond.constantLong "TorsionDesk$Cubic" (38 : Nat) (3 : Int64)) ∈ zB := zB1 (List.mem_append_left _ (List.mem_of_getElem? (i := 152) rfl)) rfl
theorem zw_153 : (Jvm.Cond.constantLong "TorsionDesk$Cubic" (40 : Nat) (2 : Int64)) ∈ zB := zB1 (List.mem_append_left _ (List.mem_of_getElem? (i := 153) rfl)) rfl
theorem zw_154 : (Jvm.Cond.constantLong "TorsionDesk$FinitePoints" (67 : Nat) (2 : Int64)) ∈ zB := zB1 (List.mem_append_left _ (List.mem_of_getElem? (i := 154) rfl)) rfl
theorem zw_155 : (Jvm.Cond.methodLink "TorsionDesk$FinitePoints" (72 : Nat) ({ cls := "TorsionDesk$FinitePoints", name := "numberOf", desc := "(JJ)I" } : Jvm.MethodName)) ∈ zB := zB1 (List.mem_append_left _ (List.mem_of_getElem? (i := 155) rfl)) rfl
theorem zw_167 : (Jvm.Cond.methodLink "TorsionDesk$FinitePoints" (56 : Nat) ({ cls := "TorsionDesk$FinitePoints", name := "added", desc := "(LTorsionDesk$Cubic;II)I" } : Jvm.MethodName)) ∈ zB := zB1 (List.mem_append_left _ (List.mem_of_getElem? (i := 167) rfl)) rfl
theorem zw_311 : (Jvm.Cond.static ({ cls := "TorsionDesk$Cubic", name := "discriminantOf", desc := "(JJJ)J" } : Jvm.MethodName)) ∈ zB := zB1 (List.mem_append_right _ (List.mem_append_left _ (List.mem_of_getElem? (i := 71) rfl))) rfl
theorem zw_312 : (Jvm.Cond.code ({ cls := "TorsionDesk$Cubic", name := "discriminantOf", desc := "(JJJ)J" } : Jvm.MethodName) prog_2_method_2_code (6 : Nat) (Option.some Jvm.ClassFile.FieldType.long)) ∈ zB := zB1 (List.mem_append_right _ (List.mem_append_left _ (List.mem_of_getElem? (i := 72) rfl))) rfl
theorem zw_313 : (Jvm.Cond.constantLong "TorsionDesk$Cubic" (15 : Nat) (4 : Int64)) ∈ zB := zB1 (List.mem_append_right _ (List.mem_append_left _ (List.mem_of_getElem? (i := 73) rfl))) rfl
theorem zw_314 : (Jvm.Cond.constantLong "TorsionDesk$Cubic" (17 : Nat) (27 : Int64)) ∈ zB := zB1 (List.mem_append_right _ (List.mem_append_left _ (List.mem_of_getElem? (i := 74) rfl))) rfl
theorem zw_315 : (Jvm.Cond.constantLong "TorsionDesk$Cubic" (19 : Nat) (18 : Int64)) ∈ zB := zB1 (List.mem_append_right _ (List.mem_append_left _ (List.mem_of_getElem? (i := 75) rfl))) rfl
theorem zw_336 : (Jvm.Cond.methodLink "TorsionDesk$Cubic" (31 : Nat) ({ cls := "TorsionDesk$Cubic", name := "discriminantOf", desc := "(JJJ)J" } : Jvm.MethodName)) ∈ zB := zB1 (List.mem_append_right _ (List.mem_append_left _ (List.mem_of_getElem? (i := 96) rfl))) rfl
theorem zw_437 : (Jvm.Cond.lays "TorsionDeskModel" "TorsionDeskModel" "thrown" "I") ∈ zB := zB1 (List.mem_append_right _ (List.mem_append_left _ (List.mem_of_getElem? (i := 197) rfl))) rfl
theorem zw_439 : (Jvm.Cond.lays "TorsionDeskModel" "TorsionDeskModel" "there" "Z") ∈ zB := zB1 (List.mem_append_right _ (List.mem_append_left _ (List.mem_of_getElem? (i := 199) rfl))) rfl
theorem zw_441 : (Jvm.Cond.lays "TorsionDeskModel" "TorsionDeskModel" "ca" "I") ∈ zB := zB1 (List.mem_append_right _ (List.mem_append_left _ (List.mem_of_getElem? (i := 201) rfl))) rfl
theorem zw_443 : (Jvm.Cond.lays "TorsionDeskModel" "TorsionDeskModel" "cc" "I") ∈ zB := zB1 (List.mem_append_right _ (List.mem_append_left _ (List.mem_of_getElem? (i := 203) rfl))) rfl
theorem zw_445 : (Jvm.Cond.lays "TorsionDeskModel" "TorsionDeskModel" "one" "J") ∈ zB := zB1 (List.mem_append_right _ (List.mem_append_left _ (List.mem_of_getElem? (i := 205) rfl))) rfl
theorem zw_447 : (Jvm.Cond.lays "TorsionDeskModel" "TorsionDeskModel" "two" "J") ∈ zB := zB1 (List.mem_append_right _ (List.mem_append_left _ (List.mem_of_getElem? (i := 207) rfl))) rfl
theorem zw_449 : (Jvm.Cond.lays "TorsionDeskModel" "TorsionDeskModel" "three" "J") ∈ zB := zB1 (List.mem_append_right _ (List.mem_append_left _ (List.mem_of_getElem? (i := 209) rfl))) rfl
theorem zw_451 : (Jvm.Cond.lays "TorsionDeskModel" "TorsionDeskModel" "disc" "J") ∈ zB := zB1 (List.mem_append_right _ (List.mem_append_left _ (List.mem_of_getElem? (i := 211) rfl))) rfl
theorem zw_453 : (Jvm.Cond.lays "TorsionDeskModel" "TorsionDeskModel" "points" "I") ∈ zB := zB1 (List.mem_append_right _ (List.mem_append_left _ (List.mem_of_getElem? (i := 213) rfl))) rfl
theorem zw_455 : (Jvm.Cond.laysFinal "TorsionDeskModel" "TorsionDeskModel" "px" "[I") ∈ zB := zB1 (List.mem_append_right _ (List.mem_append_left _ (List.mem_of_getElem? (i := 215) rfl))) rfl
theorem zw_457 : (Jvm.Cond.laysFinal "TorsionDeskModel" "TorsionDeskModel" "py" "[I") ∈ zB := zB1 (List.mem_append_right _ (List.mem_append_left _ (List.mem_of_getElem? (i := 217) rfl))) rfl
theorem zw_459 : (Jvm.Cond.laysFinal "TorsionDeskModel" "TorsionDeskModel" "order" "[I") ∈ zB := zB1 (List.mem_append_right _ (List.mem_append_left _ (List.mem_of_getElem? (i := 219) rfl))) rfl
theorem zw_461 : (Jvm.Cond.lays "TorsionDeskModel" "TorsionDeskModel" "zero" "Z") ∈ zB := zB1 (List.mem_append_right _ (List.mem_append_left _ (List.mem_of_getElem? (i := 221) rfl))) rfl
theorem zw_463 : (Jvm.Cond.lays "TorsionDeskModel" "TorsionDeskModel" "whole" "Z") ∈ zB := zB1 (List.mem_append_right _ (List.mem_append_left _ (List.mem_of_getElem? (i := 223) rfl))) rfl
theorem zw_465 : (Jvm.Cond.lays "TorsionDeskModel" "TorsionDeskModel" "sx" "J") ∈ zB := zB1 (List.mem_append_right _ (List.mem_append_left _ (List.mem_of_getElem? (i := 225) rfl))) rfl
theorem zw_467 : (Jvm.Cond.lays "TorsionDeskModel" "TorsionDeskModel" "sy" "J") ∈ zB := zB1 (List.mem_append_right _ (List.mem_append_left _ (List.mem_of_getElem? (i := 227) rfl))) rfl
theorem zw_469 : (Jvm.Cond.lays "TorsionDeskModel" "TorsionDeskModel" "rows" "I") ∈ zB := zB1 (List.mem_append_right _ (List.mem_append_left _ (List.mem_of_getElem? (i := 229) rfl))) rfl
theorem zw_471 : (Jvm.Cond.lays "TorsionDeskModel" "TorsionDeskModel" "columns" "I") ∈ zB := zB1 (List.mem_append_right _ (List.mem_append_left _ (List.mem_of_getElem? (i := 231) rfl))) rfl
theorem zw_473 : (Jvm.Cond.lays "TorsionDeskModel" "TorsionDeskModel" "first" "I") ∈ zB := zB1 (List.mem_append_right _ (List.mem_append_left _ (List.mem_of_getElem? (i := 233) rfl))) rfl
theorem zw_475 : (Jvm.Cond.lays "TorsionDeskModel" "TorsionDeskModel" "second" "I") ∈ zB := zB1 (List.mem_append_right _ (List.mem_append_left _ (List.mem_of_getElem? (i := 235) rfl))) rfl
theorem lX0 : ∀ w ∈ u_ws "TorsionDesk$Cubic" tX0 5, w ∈ zB := by
  show ∀ w ∈ [u_lay "TorsionDesk$Cubic" tX0 0, u_lay "TorsionDesk$Cubic" tX0 1, u_lay "TorsionDesk$Cubic" tX0 2, u_lay "TorsionDesk$Cubic" tX0 3, u_lay "TorsionDesk$Cubic" tX0 4], w ∈ zB
  exact List.forall_mem_cons.mpr ⟨zw_35, List.forall_mem_cons.mpr ⟨zw_37, List.forall_mem_cons.mpr ⟨zw_39, List.forall_mem_cons.mpr ⟨zw_41, List.forall_mem_cons.mpr ⟨zw_43, fun _ h => nomatch h⟩⟩⟩⟩⟩
theorem lX1 : ∀ w ∈ u_ws "TorsionDesk$FinitePoints" tX1 4, w ∈ zB := by
  show ∀ w ∈ [u_lay "TorsionDesk$FinitePoints" tX1 0, u_lay "TorsionDesk$FinitePoints" tX1 1, u_lay "TorsionDesk$FinitePoints" tX1 2, u_lay "TorsionDesk$FinitePoints" tX1 3], w ∈ zB
  exact List.forall_mem_cons.mpr ⟨zw_80, List.forall_mem_cons.mpr ⟨zw_82, List.forall_mem_cons.mpr ⟨zw_84, List.forall_mem_cons.mpr ⟨zw_86, fun _ h => nomatch h⟩⟩⟩⟩
theorem lX2 : ∀ w ∈ u_ws "TorsionDesk$SquareDivisors" tX2 3, w ∈ zB := by
  show ∀ w ∈ [u_lay "TorsionDesk$SquareDivisors" tX2 0, u_lay "TorsionDesk$SquareDivisors" tX2 1, u_lay "TorsionDesk$SquareDivisors" tX2 2], w ∈ zB
  exact List.forall_mem_cons.mpr ⟨zw_59, List.forall_mem_cons.mpr ⟨zw_61, List.forall_mem_cons.mpr ⟨zw_63, fun _ h => nomatch h⟩⟩⟩
theorem lX3 : ∀ w ∈ u_ws "TorsionDesk" tX3 6, w ∈ zB := by
  show ∀ w ∈ [u_lay "TorsionDesk" tX3 0, u_lay "TorsionDesk" tX3 1, u_lay "TorsionDesk" tX3 2, u_lay "TorsionDesk" tX3 3, u_lay "TorsionDesk" tX3 4, u_lay "TorsionDesk" tX3 5], w ∈ zB
  exact List.forall_mem_cons.mpr ⟨zw_95, List.forall_mem_cons.mpr ⟨zw_97, List.forall_mem_cons.mpr ⟨zw_99, List.forall_mem_cons.mpr ⟨zw_101, List.forall_mem_cons.mpr ⟨zw_103, List.forall_mem_cons.mpr ⟨zw_105, fun _ h => nomatch h⟩⟩⟩⟩⟩⟩
theorem lX4 : ∀ w ∈ u_ws "TorsionDeskModel" tX4 20, w ∈ zB := by
  show ∀ w ∈ [u_lay "TorsionDeskModel" tX4 0, u_lay "TorsionDeskModel" tX4 1, u_lay "TorsionDeskModel" tX4 2, u_lay "TorsionDeskModel" tX4 3, u_lay "TorsionDeskModel" tX4 4, u_lay "TorsionDeskModel" tX4 5, u_lay "TorsionDeskModel" tX4 6, u_lay "TorsionDeskModel" tX4 7, u_lay "TorsionDeskModel" tX4 8, u_lay "TorsionDeskModel" tX4 9, u_lay "TorsionDeskModel" tX4 10, u_lay "TorsionDeskModel" tX4 11, u_lay "TorsionDeskModel" tX4 12, u_lay "TorsionDeskModel" tX4 13, u_lay "TorsionDeskModel" tX4 14, u_lay "TorsionDeskModel" tX4 15, u_lay "TorsionDeskModel" tX4 16, u_lay "TorsionDeskModel" tX4 17, u_lay "TorsionDeskModel" tX4 18, u_lay "TorsionDeskModel" tX4 19], w ∈ zB
  exact List.forall_mem_cons.mpr ⟨zw_437, List.forall_mem_cons.mpr ⟨zw_439, List.forall_mem_cons.mpr ⟨zw_441, List.forall_mem_cons.mpr ⟨zw_443, List.forall_mem_cons.mpr ⟨zw_445, List.forall_mem_cons.mpr ⟨zw_447, List.forall_mem_cons.mpr ⟨zw_449, List.forall_mem_cons.mpr ⟨zw_451, List.forall_mem_cons.mpr ⟨zw_453, List.forall_mem_cons.mpr ⟨zw_455, List.forall_mem_cons.mpr ⟨zw_457, List.forall_mem_cons.mpr ⟨zw_459, List.forall_mem_cons.mpr ⟨zw_461, List.forall_mem_cons.mpr ⟨zw_463, List.forall_mem_cons.mpr ⟨zw_465, List.forall_mem_cons.mpr ⟨zw_467, List.forall_mem_cons.mpr ⟨zw_469, List.forall_mem_cons.mpr ⟨zw_471, List.forall_mem_cons.mpr ⟨zw_473, List.forall_mem_cons.mpr ⟨zw_475, fun _ h => nomatch h⟩⟩⟩⟩⟩⟩⟩⟩⟩⟩⟩⟩⟩⟩⟩⟩⟩⟩⟩⟩
end
section
/-! own rows: contracts by a functional model -/
theorem zbind {α β : Type} {o : Option α} {f : α → Option β} {r : β} (h : o.bind f = some r) : ∃ a, o = some a ∧ f a = some r := by
  cases o with
  | none => cases h
  | some a => exact ⟨a, rfl, h⟩
/-- a method's start: its arguments, its world, the tables -/
def zPc (av : List Value) (D : va_G) (Z : va_W) (tys : List (ClassId × FieldType)) : Array Value → State → Prop := fun v U => v = av.toArray ∧ va_P D vwCl Z U.heap ∧ va_K D vwCl tys U ∧ va_D (fun _ => True) Z
theorem zPc_blind {av : List Value} {D : va_G} {Z : va_W} {tys : List (ClassId × FieldType)} : FrameBlind (zPc av D Z tys) := fun a U g mk q => ⟨q.1, q.2.1, va_K.moved (u := U) (U := U.calling g mk a) (Vm.Alike.refl U.vm) q.2.2.1, q.2.2.2⟩
/-- the addresses of a world -/
def zIn (Z : va_W) : Nat → Prop := fun q => ∃ (k : Nat) (e : va_E), Z[k]? = some (q, e)
theorem zIn_self {A : Nat → Prop} {Z : va_W} (h : va_D A Z) : va_D (zIn Z) Z := ⟨h.1, fun k q hk => ⟨k, q.2, hk⟩⟩
/-- it answers, the heap is as it was -/
def zRd (o : Option Value) : Array Value → State → Outcome → State → Prop := fun _ st oc t => oc = .returned o ∧ t.heap = st.heap
/-- it answers, its world is Z1 now, nothing outside A has changed -/
def zWr (o : Option Value) (D : va_G) (A : Nat → Prop) (Z1 : va_W) : Array Value → State → Outcome → State → Prop := fun _ st oc t => oc = .returned o ∧ va_P D vwCl Z1 t.heap ∧ va_F A st t
theorem zm {l : Launch} {y : MethodName} {rm : Room} {cc : ByteArray} {maxL : Nat} {ret : Option FieldType} {av : List Value} {D : va_G} {Z : va_W} {tys : List (ClassId × FieldType)} {Qc : Array Value → State → Outcome → State → Prop} {mc ms : Nat} {free : Addr → Prop}
    (hy : plainName y.cls = true) (hlen : (lg_sl av).length ≤ maxL)
    (body : ∀ (p : Program) (e : Env) (s : State) (m : MethodId) (args : Array Value) (below : List Frame) (meth : Method) (c : Code) (R : Room) (Q : State → Prop), R = rm → Q = MQ below Qc args s mc ms free → args = av.toArray → p.tables.exec = Jvm.exec → c.code = cc → c.maxLocals = maxL → meth.sig.returnType = ret → meth.locks = false → meth.name = y.name → (∀ w ∈ zB, w.before args s = true) → s.vm.findClass y.cls = some m.cls → va_P D vwCl Z s.heap → va_K D vwCl tys s → va_D (fun _ => True) Z → ∀ ls : Array Slot, lv_has ls maxL (lv_args 0 av) → W p l e R s m args below meth c s.heap [] 0 0 Q (F0 m 0 ls [])) : Met l y (Cond.code y cc maxL ret :: zB) rm (zPc av D Z tys) Qc mc ms free := by
  refine Met.ofW (cc := cc) (maxL := maxL) (ret := ret) hy rfl ?_
  intro p e s m args below meth c s₁ B hml hv
  obtain ⟨hav, hP, hK, hD⟩ := hv
  have hl := lv_entry av (n := maxL) hlen
  have hts := atoms_spec (ws := Cond.code y cc maxL ret :: zB) B.pre
  have hx := body p e s m args below meth c _ _ rfl rfl hav B.exec B.bytes hml B.returns B.notSynchronized (name_of_methodNamed B.named B.method).1 (fun w h => hts w (List.mem_cons_of_mem _ h)) (findClass_of_methodNamed B.named) hP hK hD _ hl
  subst hav
  rw [lg_entry_eq]
  exact hx
section ZK
variable {p : Program} {l : Launch} {e : Env} {R : Room} {s : State} {m : MethodId} {args : Array Value} {below : List Frame} {meth : Method} {c : Code} {H : Heap} {locs : List Loc} {cells slots : Nat} {Q : State → Prop}
variable {cc bytes : ByteArray} {pc : Nat} {ls : Array Slot} {rest st0 As : List Value} {D : va_G} {A A0 : Nat → Prop} {H0 : Heap} {tys : List (ClassId × FieldType)} {ws Ts : List Cond} {rm : Room} {y : MethodName} {own C : String} {index nL maxL n ci : Nat} {ret : Option FieldType} {b : Nat} {o : Option Value} {Z Zc Z1 : va_W} {q : vw_C} {fs : List Value}
theorem zl_eq (hexec : p.tables.exec = Jvm.exec) (hb : c.code = cc) {x y : Int64} {off : Int} {tgt : Nat} (hd1 : decode cc pc = .ok (.lcmp, 1)) (hd2 : decode cc (pc + 1) = .ok (.ifCond .eq off, 3)) (ht : ((pc + 1 : Nat) : Int) + off = (tgt : Int))
    (kt : x = y → W p l e R s m args below meth c H locs cells slots Q (F0 m tgt ls rest)) (kf : ¬ x = y → W p l e R s m args below meth c H locs cells slots Q (F0 m (pc + 1 + 3) ls rest)) : W p l e R s m args below meth c H locs cells slots Q (F0 m pc ls (.long y :: .long x :: rest)) :=
  W.lcmp hexec hb hd1 (lv_if_eq hexec hb hd2 ht (fun h => kt ((lg_cmp_eq x y).mp h)) (fun h => kf (fun z => h ((lg_cmp_eq x y).mpr z))))
theorem zl_ne (hexec : p.tables.exec = Jvm.exec) (hb : c.code = cc) {x y : Int64} {off : Int} {tgt : Nat} (hd1 : decode cc pc = .ok (.lcmp, 1)) (hd2 : decode cc (pc + 1) = .ok (.ifCond .ne off, 3)) (ht : ((pc + 1 : Nat) : Int) + off = (tgt : Int))
    (kt : ¬ x = y → W p l e R s m args below meth c H locs cells slots Q (F0 m tgt ls rest)) (kf : x = y → W p l e R s m args below meth c H locs cells slots Q (F0 m (pc + 1 + 3) ls rest)) : W p l e R s m args below meth c H locs cells slots Q (F0 m pc ls (.long y :: .long x :: rest)) :=
  W.lcmp hexec hb hd1 (lv_if_ne hexec hb hd2 ht (fun h => kt (fun z => h ((lg_cmp_eq x y).mpr z))) (fun h => kf ((lg_cmp_eq x y).mp h)))
theorem zl_lt (hexec : p.tables.exec = Jvm.exec) (hb : c.code = cc) {x y : Int64} {off : Int} {tgt : Nat} (hd1 : decode cc pc = .ok (.lcmp, 1)) (hd2 : decode cc (pc + 1) = .ok (.ifCond .lt off, 3)) (ht : ((pc + 1 : Nat) : Int) + off = (tgt : Int))
    (kt : x < y → W p l e R s m args below meth c H locs cells slots Q (F0 m tgt ls rest)) (kf : ¬ x < y → W p l e R s m args below meth c H locs cells slots Q (F0 m (pc + 1 + 3) ls rest)) : W p l e R s m args below meth c H locs cells slots Q (F0 m pc ls (.long y :: .long x :: rest)) :=
  W.lcmp hexec hb hd1 (lv_if_lt hexec hb hd2 ht (fun h => kt ((lg_cmp_lt x y).mp h)) (fun h => kf (fun z => h ((lg_cmp_lt x y).mpr z))))
theorem zl_ge (hexec : p.tables.exec = Jvm.exec) (hb : c.code = cc) {x y : Int64} {off : Int} {tgt : Nat} (hd1 : decode cc pc = .ok (.lcmp, 1)) (hd2 : decode cc (pc + 1) = .ok (.ifCond .ge off, 3)) (ht : ((pc + 1 : Nat) : Int) + off = (tgt : Int))
    (kt : y ≤ x → W p l e R s m args below meth c H locs cells slots Q (F0 m tgt ls rest)) (kf : ¬ y ≤ x → W p l e R s m args below meth c H locs cells slots Q (F0 m (pc + 1 + 3) ls rest)) : W p l e R s m args below meth c H locs cells slots Q (F0 m pc ls (.long y :: .long x :: rest)) :=
  W.lcmp hexec hb hd1 (lv_if_ge hexec hb hd2 ht (fun h => kt ((lg_cmp_ge x y).mp h)) (fun h => kf (fun z => h ((lg_cmp_ge x y).mpr z))))
theorem zl_gt (hexec : p.tables.exec = Jvm.exec) (hb : c.code = cc) {x y : Int64} {off : Int} {tgt : Nat} (hd1 : decode cc pc = .ok (.lcmp, 1)) (hd2 : decode cc (pc + 1) = .ok (.ifCond .gt off, 3)) (ht : ((pc + 1 : Nat) : Int) + off = (tgt : Int))
    (kt : y < x → W p l e R s m args below meth c H locs cells slots Q (F0 m tgt ls rest)) (kf : ¬ y < x → W p l e R s m args below meth c H locs cells slots Q (F0 m (pc + 1 + 3) ls rest)) : W p l e R s m args below meth c H locs cells slots Q (F0 m pc ls (.long y :: .long x :: rest)) :=
  W.lcmp hexec hb hd1 (lv_if_gt hexec hb hd2 ht (fun h => kt ((lg_cmp_gt x y).mp h)) (fun h => kf (fun z => h ((lg_cmp_gt x y).mpr z))))
theorem zl_le (hexec : p.tables.exec = Jvm.exec) (hb : c.code = cc) {x y : Int64} {off : Int} {tgt : Nat} (hd1 : decode cc pc = .ok (.lcmp, 1)) (hd2 : decode cc (pc + 1) = .ok (.ifCond .le off, 3)) (ht : ((pc + 1 : Nat) : Int) + off = (tgt : Int))
    (kt : x ≤ y → W p l e R s m args below meth c H locs cells slots Q (F0 m tgt ls rest)) (kf : ¬ x ≤ y → W p l e R s m args below meth c H locs cells slots Q (F0 m (pc + 1 + 3) ls rest)) : W p l e R s m args below meth c H locs cells slots Q (F0 m pc ls (.long y :: .long x :: rest)) :=
  W.lcmp hexec hb hd1 (lv_if_le hexec hb hd2 ht (fun h => kt ((lg_cmp_le x y).mp h)) (fun h => kf (fun z => h ((lg_cmp_le x y).mpr z))))
/-- a call that changes nothing -/
theorem zcV (S : CallFix p m c cc nL s args Ts own) (hM : Met l y ws rm (zPc (.ref b :: As) D Zc tys) (zRd o) 0 0 (fun _ => False)) (cw : CallW R s args own C index y bytes maxL ret ws rm 0 0 n) (hK : va_K D vwCl tys s) (hP : va_P D vwCl Zc H) (hD : va_D A Zc) (hq : vwCl[ci]? = some q) (hqC : q.1 = C) (he : Zc[0]? = some (b, .inr (ci, fs)))
    (hn : As.length = n) (hsize : ls.size = nL) (hstack : st0 = As.reverse ++ .ref b :: rest) (hW : (rest.map fun v => v.category).sum ≤ 8) (hdg : decode cc pc = .ok (.invokevirtual index, 3)) (hf : cells + 0 ≤ R.cells ∧ slots + 0 ≤ R.slots)
    (kk : W p l e R s m args below meth c H locs cells slots Q (F0 m (pc + 3) ls (o.toList ++ rest))) : W p l e R s m args below meth c H locs cells slots Q (F0 m pc ls st0) := by
  have hr := W.runV (g := F0 m pc ls st0) (meth := meth) (e := e) (below := below) (locs := locs) (H := H) S hM cw ⟨zPc_blind, by rw [← hqC]; exact va_recv hK hP hq he, fun U hU hW => ⟨rfl, by rw [hU]; exact hP, va_K.moved hW.alike hK, hD.weaken (fun _ _ _ _ => trivial)⟩⟩ rfl hn hsize hstack (lv_room hW) hdg hf
  intro T hT X
  obtain ⟨v, st₀, t, T', L, h0, X', hL, e1, ⟨hv, hh⟩, st⟩ := hr T hT X
  cases hv
  obtain ⟨t2, a1, b1⟩ := kk T' (by rw [e1, hh, h0]) (Stand.forget X' (fun q h => (hL q h).elim))
  exact ⟨t2, st t2 a1, b1⟩
theorem zcS (S : CallFix p m c cc nL s args Ts own) (hM : Met l y ws rm (zPc As D Zc tys) (zRd o) 0 0 (fun _ => False)) (cw : CallB R s args own index y bytes maxL ret ws rm 0 0 n ∧ (Cond.static y).before args s = true) (hK : va_K D vwCl tys s) (hP : va_P D vwCl Zc H) (hD : va_D A Zc)
    (hn : As.length = n) (hsize : ls.size = nL) (hstack : st0 = As.reverse ++ rest) (hW : (rest.map fun v => v.category).sum ≤ 8) (hdg : decode cc pc = .ok (.invokestatic index, 3)) (hf : cells + 0 ≤ R.cells ∧ slots + 0 ≤ R.slots)
    (kk : W p l e R s m args below meth c H locs cells slots Q (F0 m (pc + 3) ls (o.toList ++ rest))) : W p l e R s m args below meth c H locs cells slots Q (F0 m pc ls st0) := by
  have hr := W.runS (g := F0 m pc ls st0) (meth := meth) (e := e) (below := below) (locs := locs) (H := H) S hM cw ⟨zPc_blind, fun U hU hW => ⟨rfl, by rw [hU]; exact hP, va_K.moved hW.alike hK, hD.weaken (fun _ _ _ _ => trivial)⟩⟩ rfl hn hsize hstack (lv_room hW) hdg hf
  intro T hT X
  obtain ⟨v, st₀, t, T', L, h0, X', hL, e1, ⟨hv, hh⟩, st⟩ := hr T hT X
  cases hv
  obtain ⟨t2, a1, b1⟩ := kk T' (by rw [e1, hh, h0]) (Stand.forget X' (fun q h => (hL q h).elim))
  exact ⟨t2, st t2 a1, b1⟩
end ZK
/-- some cells of a world put in the place of others -/
def zrep : va_W → List Nat → va_W → va_W
  | Z, i :: is, x :: xs => zrep (Z.set i x) is xs
  | Z, _, _ => Z
theorem zrep_at : ∀ (is : List Nat) (Z Z1 : va_W), va_nd is = true → is.length = Z1.length → ∀ (k : Nat) (q : Nat × va_E), (zrep Z is Z1)[k]? = some q → (∃ j : Nat, is[j]? = some k ∧ Z1[j]? = some q) ∨ (k ∉ is ∧ Z[k]? = some q)
  | [], Z, Z1, _, _, k, q, h => by
    refine Or.inr ⟨by simp, ?_⟩
    cases Z1 <;> exact h
  | i :: is, Z, [], _, hl, k, q, h => by simp at hl
  | i :: is, Z, x :: xs, hn, hl, k, q, h => by
    simp only [va_nd, Bool.and_eq_true, decide_eq_true_eq] at hn
    have hl2 : is.length = xs.length := by simpa using hl
    rcases zrep_at is (Z.set i x) xs hn.2 hl2 k q h with ⟨j, h1, h2⟩ | ⟨h1, h2⟩
    · exact Or.inl ⟨j + 1, by simpa using h1, by simpa using h2⟩
    · by_cases hk : k = i
      · subst hk
        refine Or.inl ⟨0, by simp, ?_⟩
        by_cases hz : k < Z.length
        · rw [List.getElem?_set_self hz] at h2
          simpa using h2
        · rw [List.getElem?_eq_none (by rw [List.length_set]; omega)] at h2
          cases h2
      · rw [List.getElem?_set_ne (Ne.symm hk)] at h2
        exact Or.inr ⟨by simp [hk, h1], h2⟩
theorem zrep_D {A : Nat → Prop} {Z Zc Z1 : va_W} {is : List Nat} (hD : va_D A Z) (hn : va_nd is = true) (hC : is.map (fun i => Z[i]?) = Zc.map some) (ha : Z1.map (fun x => x.1) = Zc.map (fun x => x.1)) : (∀ (k : Nat) (q : Nat × va_E), (zrep Z is Z1)[k]? = some q → ∃ q0, Z[k]? = some q0 ∧ q0.1 = q.1) ∧ va_D A (zrep Z is Z1) := by
  have hl1 : is.length = Zc.length := by have := congrArg List.length hC; simpa using this
  have hl2 : Z1.length = Zc.length := by have := congrArg List.length ha; simpa using this
  have key : ∀ (k : Nat) (q : Nat × va_E), (zrep Z is Z1)[k]? = some q → ∃ q0, Z[k]? = some q0 ∧ q0.1 = q.1 := by
    intro k q h
    rcases zrep_at is Z Z1 hn (hl1.trans hl2.symm) k q h with ⟨j, h1, h2⟩ | ⟨h1, h2⟩
    · have h3 : (is.map (fun i => Z[i]?))[j]? = some (Z[k]?) := by rw [List.getElem?_map, h1]; rfl
      rw [hC, List.getElem?_map] at h3
      have h4 : (Z1.map (fun x => x.1))[j]? = some q.1 := by rw [List.getElem?_map, h2]; rfl
      rw [ha, List.getElem?_map] at h4
      cases hz : Zc[j]? with
      | none => rw [hz] at h4; cases h4
      | some z =>
        rw [hz] at h3 h4
        exact ⟨z, (Option.some.inj h3).symm, Option.some.inj h4⟩
    · exact ⟨q, h2, rfl⟩
  refine ⟨key, fun i j x y hi hj hxy => ?_, fun k q hk => ?_⟩
  · obtain ⟨x0, h1, h2⟩ := key i x hi
    obtain ⟨y0, h3, h4⟩ := key j y hj
    exact hD.1 i j x0 y0 h1 h3 (h2.trans (hxy.trans h4.symm))
  · obtain ⟨q0, h1, h2⟩ := key k q hk
    rw [← h2]
    exact hD.2 k q0 h1
theorem zrep_P {A : Nat → Prop} {D : va_G} {Z Zc Z1 : va_W} {H H1 : Heap} {is : List Nat} (hP : va_P D vwCl Z H) (hD : va_D A Z) (hn : va_nd is = true) (hC : is.map (fun i => Z[i]?) = Zc.map some) (ha : Z1.map (fun x => x.1) = Zc.map (fun x => x.1))
    (hk : ∀ q : Nat, q < H.size → ¬ zIn Zc q → H1[q]? = H[q]?) (hP1 : va_P D vwCl Z1 H1) : va_P D vwCl (zrep Z is Z1) H1 := by
  have hl1 : is.length = Zc.length := by have := congrArg List.length hC; simpa using this
  have hl2 : Z1.length = Zc.length := by have := congrArg List.length ha; simpa using this
  intro k q h
  rcases zrep_at is Z Z1 hn (hl1.trans hl2.symm) k q h with ⟨j, h1, h2⟩ | ⟨h1, h2⟩
  · exact hP1 j q h2
  · refine (hP k q h2).kept (hk q.1 (hP k q h2).lt ?_)
    rintro ⟨j, e, hj⟩
    have h3 : (is.map (fun i => Z[i]?))[j]? = some (some (q.1, e)) := by rw [hC, List.getElem?_map, hj]; rfl
    rw [List.getElem?_map] at h3
    cases hi : is[j]? with
    | none => rw [hi] at h3; cases h3
    | some i =>
      rw [hi] at h3
      have h4 := hD.1 k i q (q.1, e) h2 (Option.some.inj h3) rfl
      subst h4
      exact h1 (List.mem_of_getElem? hi)
theorem zin_sub {A : Nat → Prop} {Z Zc : va_W} {is : List Nat} (hD : va_D A Z) (hC : is.map (fun i => Z[i]?) = Zc.map some) : ∀ q, zIn Zc q → A q := by
  rintro q ⟨j, e, hj⟩
  have h3 : (is.map (fun i => Z[i]?))[j]? = some (some (q, e)) := by rw [hC, List.getElem?_map, hj]; rfl
  rw [List.getElem?_map] at h3
  cases hi : is[j]? with
  | none => rw [hi] at h3; cases h3
  | some i => rw [hi] at h3; exact hD.2 i (q, e) (Option.some.inj h3)
theorem zsub_D {A : Nat → Prop} {Z Zc : va_W} {is : List Nat} (hD : va_D A Z) (hn : va_nd is = true) (hC : is.map (fun i => Z[i]?) = Zc.map some) : va_D (fun _ => True) Zc := (hD.sub is hn hC).weaken (fun _ _ _ _ => trivial)
theorem zsub_P {D : va_G} {Z Zc : va_W} {H : Heap} {is : List Nat} (hP : va_P D vwCl Z H) (hC : is.map (fun i => Z[i]?) = Zc.map some) : va_P D vwCl Zc H := by
  intro j q hj
  have h3 : (is.map (fun i => Z[i]?))[j]? = some (some q) := by rw [hC, List.getElem?_map, hj]; rfl
  rw [List.getElem?_map] at h3
  cases hi : is[j]? with
  | none => rw [hi] at h3; cases h3
  | some i => rw [hi] at h3; exact hP i q (Option.some.inj h3)
section ZW
variable {p : Program} {l : Launch} {e : Env} {R : Room} {s : State} {m : MethodId} {args : Array Value} {below : List Frame} {meth : Method} {c : Code} {H : Heap} {locs : List Loc} {cells slots : Nat} {Q : State → Prop}
variable {cc bytes : ByteArray} {pc : Nat} {ls : Array Slot} {rest st0 As : List Value} {D : va_G} {A A0 : Nat → Prop} {H0 : Heap} {tys : List (ClassId × FieldType)} {ws Ts : List Cond} {rm : Room} {y : MethodName} {own C : String} {index nL maxL n ci : Nat} {ret : Option FieldType} {b : Nat} {o : Option Value} {Z Zc Z1 : va_W} {q : vw_C} {fs : List Value}
theorem zwEnd {a : Array Value} (hr : va_Run p l e R s m args below meth c H locs cells slots 0 0 (F0 m pc ls st0) rest (zWr o D (zIn Zc) Z1 a) (zIn Zc)) (hP : va_P D vwCl Z H) (hD : va_D A Z) (hS : va_S A H0 H locs) (is : List Nat) (hn : va_nd is = true) (hC : is.map (fun i => Z[i]?) = Zc.map some) (ha : Z1.map (fun x => x.1) = Zc.map (fun x => x.1))
    (kk : ∀ (H1 : Heap) (locs1 : List Loc), va_P D vwCl (zrep Z is Z1) H1 → va_D A (zrep Z is Z1) → va_S A H0 H1 locs1 → W p l e R s m args below meth c H1 locs1 cells slots Q (F0 m (pc + 3) ls (o.toList ++ rest))) : W p l e R s m args below meth c H locs cells slots Q (F0 m pc ls st0) := by
  intro T hT X
  obtain ⟨v, st₀, t, T', L, h0, X', hL, e1, e2, ⟨hv, hP1, hz, hk⟩, st⟩ := hr T hT X
  cases hv
  rw [h0] at hz hk
  have hsub := zin_sub hD hC
  obtain ⟨t2, a1, b1⟩ := kk T'.heap (locs ++ L) (zrep_P hP hD hn hC ha (fun q h1 h2 => by rw [e1]; exact hk q h1 h2) (by rw [e1]; exact hP1)) (zrep_D hD hn hC ha).2
    ⟨Nat.le_trans hS.1 (by rw [e1]; exact hz), fun q h1 h2 => by rw [e1, hk q (Nat.lt_of_lt_of_le h1 hS.1) (fun z => h2 (hsub q z))]; exact hS.2.1 q h1 h2, fun q hq => by
      rcases List.mem_append.mp hq with h | h
      · exact hS.2.2 q h
      · exact hsub _ (hL q h)⟩ T' rfl X'
  exact ⟨t2, st t2 a1, b1⟩
theorem zwV (S : CallFix p m c cc nL s args Ts own) (hM : Met l y ws rm (zPc (.ref b :: As) D Zc tys) (zWr o D (zIn Zc) Z1) 0 0 (zIn Zc)) (cw : CallW R s args own C index y bytes maxL ret ws rm 0 0 n) (hK : va_K D vwCl tys s) (hP : va_P D vwCl Z H) (hD : va_D A Z) (hS : va_S A H0 H locs) (is : List Nat) (hnd : va_nd is = true) (hC : is.map (fun i => Z[i]?) = Zc.map some) (ha : Z1.map (fun x => x.1) = Zc.map (fun x => x.1)) (hq : vwCl[ci]? = some q) (hqC : q.1 = C) (he : Zc[0]? = some (b, .inr (ci, fs)))
    (hn : As.length = n) (hsize : ls.size = nL) (hstack : st0 = As.reverse ++ .ref b :: rest) (hW : (rest.map fun v => v.category).sum ≤ 8) (hdg : decode cc pc = .ok (.invokevirtual index, 3)) (hf : cells + 0 ≤ R.cells ∧ slots + 0 ≤ R.slots)
    (kk : ∀ (H1 : Heap) (locs1 : List Loc), va_P D vwCl (zrep Z is Z1) H1 → va_D A (zrep Z is Z1) → va_S A H0 H1 locs1 → W p l e R s m args below meth c H1 locs1 cells slots Q (F0 m (pc + 3) ls (o.toList ++ rest))) : W p l e R s m args below meth c H locs cells slots Q (F0 m pc ls st0) := by
  have hPc := zsub_P hP hC
  exact zwEnd (va_runV (g := F0 m pc ls st0) S hM cw ⟨zPc_blind, by rw [← hqC]; exact va_recv hK hPc hq he, fun U hU hW => ⟨rfl, by rw [hU]; exact hPc, va_K.moved hW.alike hK, zsub_D hD hnd hC⟩⟩ rfl hn hsize hstack (lv_room hW) hdg hf) hP hD hS is hnd hC ha kk
theorem zwS (S : CallFix p m c cc nL s args Ts own) (hM : Met l y ws rm (zPc As D Zc tys) (zWr o D (zIn Zc) Z1) 0 0 (zIn Zc)) (cw : CallB R s args own index y bytes maxL ret ws rm 0 0 n ∧ (Cond.static y).before args s = true) (hK : va_K D vwCl tys s) (hP : va_P D vwCl Z H) (hD : va_D A Z) (hS : va_S A H0 H locs) (is : List Nat) (hnd : va_nd is = true) (hC : is.map (fun i => Z[i]?) = Zc.map some) (ha : Z1.map (fun x => x.1) = Zc.map (fun x => x.1))
    (hn : As.length = n) (hsize : ls.size = nL) (hstack : st0 = As.reverse ++ rest) (hW : (rest.map fun v => v.category).sum ≤ 8) (hdg : decode cc pc = .ok (.invokestatic index, 3)) (hf : cells + 0 ≤ R.cells ∧ slots + 0 ≤ R.slots)
    (kk : ∀ (H1 : Heap) (locs1 : List Loc), va_P D vwCl (zrep Z is Z1) H1 → va_D A (zrep Z is Z1) → va_S A H0 H1 locs1 → W p l e R s m args below meth c H1 locs1 cells slots Q (F0 m (pc + 3) ls (o.toList ++ rest))) : W p l e R s m args below meth c H locs cells slots Q (F0 m pc ls st0) := by
  have hPc := zsub_P hP hC
  exact zwEnd (va_runS (g := F0 m pc ls st0) S hM cw ⟨zPc_blind, fun U hU hW => ⟨rfl, by rw [hU]; exact hPc, va_K.moved hW.alike hK, zsub_D hD hnd hC⟩⟩ rfl hn hsize hstack (lv_room hW) hdg hf) hP hD hS is hnd hC ha kk
end ZW
end
section
abbrev rm_cu_discriminantOf : Room := { frames := 0, cells := 0, slots := 0, locals := 0 }
def a_cu_discriminantOf (j1 : Int64) (j2 : Int64) (j3 : Int64) : Int64 := ((((((j1 * j1) * j2) * j2) - ((((4 : Int64) * j2) * j2) * j2)) - (((((4 : Int64) * j1) * j1) * j1) * j3)) - (((27 : Int64) * j3) * j3)) + ((((18 : Int64) * j1) * j2) * j3)
set_option maxHeartbeats 4000000 in
set_option maxRecDepth 100000 in
theorem w_a_cu_discriminantOf (l : Launch) (D : va_G) (cI cJ : ClassId) (j1 : Int64) (j2 : Int64) (j3 : Int64) (r0 : Int64) (hm : a_cu_discriminantOf j1 j2 j3 = r0) : Met l y_cu_discriminantOf zs_cu_discriminantOf rm_cu_discriminantOf (zPc [.long j1, .long j2, .long j3] D [] [(cI, .int), (cJ, .long)]) (zRd (some (.long r0))) 0 0 (fun _ => False) := by
  refine zm (by decide) (Nat.le_of_ble_eq_true rfl) ?_
  intro p e s m args below meth c R Q hR hQ hargs hx hb hml hr hlocks hnm hB hown hP hK hD0 ls hl
  have hown : s.vm.findClass "TorsionDesk$Cubic" = some m.cls := hown
  have hl : lv_has ls 6 [(0, .long j1), (2, .long j2), (4, .long j3)] := hl
  rw [a_cu_discriminantOf] at hm
  refine lv_lload_n (pc := 0) hx hb d_cu_discriminantOf_0 rfl (lv_at hl 0 rfl) ?_
  refine lv_lload_n (pc := 1) hx hb d_cu_discriminantOf_1 rfl (lv_at hl 0 rfl) ?_
  refine lv_lmul (pc := 2) hx hb d_cu_discriminantOf_2 ?_
  refine lv_lload_n (pc := 3) hx hb d_cu_discriminantOf_3 rfl (lv_at hl 1 rfl) ?_
  refine lv_lmul (pc := 4) hx hb d_cu_discriminantOf_4 ?_
  refine lv_lload_n (pc := 5) hx hb d_cu_discriminantOf_5 rfl (lv_at hl 1 rfl) ?_
  refine lv_lmul (pc := 6) hx hb d_cu_discriminantOf_6 ?_
  refine lv_ldc2 (pc := 7) (v := (4 : Int64)) hx hb hown (hB _ zw_313) d_cu_discriminantOf_7 ?_
  refine lv_lload_n (pc := 10) hx hb d_cu_discriminantOf_10 rfl (lv_at hl 1 rfl) ?_
  refine lv_lmul (pc := 11) hx hb d_cu_discriminantOf_11 ?_
  refine lv_lload_n (pc := 12) hx hb d_cu_discriminantOf_12 rfl (lv_at hl 1 rfl) ?_
  refine lv_lmul (pc := 13) hx hb d_cu_discriminantOf_13 ?_
  refine lv_lload_n (pc := 14) hx hb d_cu_discriminantOf_14 rfl (lv_at hl 1 rfl) ?_
  refine lv_lmul (pc := 15) hx hb d_cu_discriminantOf_15 ?_
  refine lv_lsub (pc := 16) hx hb d_cu_discriminantOf_16 ?_
  refine lv_ldc2 (pc := 17) (v := (4 : Int64)) hx hb hown (hB _ zw_313) d_cu_discriminantOf_17 ?_
  refine lv_lload_n (pc := 20) hx hb d_cu_discriminantOf_20 rfl (lv_at hl 0 rfl) ?_
  refine lv_lmul (pc := 21) hx hb d_cu_discriminantOf_21 ?_
  refine lv_lload_n (pc := 22) hx hb d_cu_discriminantOf_22 rfl (lv_at hl 0 rfl) ?_
  refine lv_lmul (pc := 23) hx hb d_cu_discriminantOf_23 ?_
  refine lv_lload_n (pc := 24) hx hb d_cu_discriminantOf_24 rfl (lv_at hl 0 rfl) ?_
  refine lv_lmul (pc := 25) hx hb d_cu_discriminantOf_25 ?_
  refine lv_lload (pc := 26) hx hb d_cu_discriminantOf_26 (lv_at hl 2 rfl) ?_
  refine lv_lmul (pc := 28) hx hb d_cu_discriminantOf_28 ?_
  refine lv_lsub (pc := 29) hx hb d_cu_discriminantOf_29 ?_
  refine lv_ldc2 (pc := 30) (v := (27 : Int64)) hx hb hown (hB _ zw_314) d_cu_discriminantOf_30 ?_
  refine lv_lload (pc := 33) hx hb d_cu_discriminantOf_33 (lv_at hl 2 rfl) ?_
  refine lv_lmul (pc := 35) hx hb d_cu_discriminantOf_35 ?_
  refine lv_lload (pc := 36) hx hb d_cu_discriminantOf_36 (lv_at hl 2 rfl) ?_
  refine lv_lmul (pc := 38) hx hb d_cu_discriminantOf_38 ?_
  refine lv_lsub (pc := 39) hx hb d_cu_discriminantOf_39 ?_
  refine lv_ldc2 (pc := 40) (v := (18 : Int64)) hx hb hown (hB _ zw_315) d_cu_discriminantOf_40 ?_
  refine lv_lload_n (pc := 43) hx hb d_cu_discriminantOf_43 rfl (lv_at hl 0 rfl) ?_
  refine lv_lmul (pc := 44) hx hb d_cu_discriminantOf_44 ?_
  refine lv_lload_n (pc := 45) hx hb d_cu_discriminantOf_45 rfl (lv_at hl 1 rfl) ?_
  refine lv_lmul (pc := 46) hx hb d_cu_discriminantOf_46 ?_
  refine lv_lload (pc := 47) hx hb d_cu_discriminantOf_47 (lv_at hl 2 rfl) ?_
  refine lv_lmul (pc := 49) hx hb d_cu_discriminantOf_49 ?_
  refine lv_ladd (pc := 50) hx hb d_cu_discriminantOf_50 ?_
  subst hm
  rw [hQ]
  exact W.lret (pc := 51) hx hb hr (fun t ht _ => ⟨rfl, ht⟩) (fun _ h9 => nomatch h9) d_cu_discriminantOf_51
abbrev rm_cu_valueAt : Room := { frames := 0, cells := 0, slots := 0, locals := 0 }
def a_cu_valueAt (sq : Int64) (li : Int64) (co : Int64) (j1 : Int64) : Int64 := ((((j1 + sq) * j1) + li) * j1) + co
set_option maxHeartbeats 4000000 in
set_option maxRecDepth 100000 in
theorem w_a_cu_valueAt (l : Launch) (D : va_G) (cI cJ : ClassId) (qu : Nat) (qr : Nat) (sq : Int64) (li : Int64) (co : Int64) (di : Int64) (rc : Nat → Int32) (j1 : Int64) (r0 : Int64) (hm : a_cu_valueAt sq li co j1 = r0) : Met l y_cu_valueAt zs_cu_valueAt rm_cu_valueAt (zPc [.ref qu, .long j1] D [(qu, .inr (0, [.long sq, .long li, .long co, .long di, .ref qr])), (qr, .inl (cI, 97, .inl rc))] [(cI, .int), (cJ, .long)]) (zRd (some (.long r0))) 0 0 (fun _ => False) := by
  refine zm (by decide) (Nat.le_of_ble_eq_true rfl) ?_
  intro p e s m args below meth c R Q hR hQ hargs hx hb hml hr hlocks hnm hB hown hP hK hD0 ls hl
  have hown : s.vm.findClass "TorsionDesk$Cubic" = some m.cls := hown
  have hl : lv_has ls 3 [(0, .ref qu), (1, .long j1)] := hl
  rw [a_cu_valueAt] at hm
  refine lv_lload_n (pc := 0) hx hb d_cu_valueAt_0 rfl (lv_at hl 1 rfl) ?_
  refine lv_aload_n (pc := 1) hx hb d_cu_valueAt_1 rfl (lv_at hl 0 rfl) ?_
  refine va_get (pc := 2) (D := D) (ci := 0) (v := .long sq) (C := "TorsionDesk$Cubic") (T := tX0) (N := 5) hx hb hB lX0 hown hK hP 0 rfl rfl 0 (by decide) (hB _ zw_28) (fun _ h9 => h9) rfl d_cu_valueAt_2 ?_
  refine lv_ladd (pc := 5) hx hb d_cu_valueAt_5 ?_
  refine lv_lload_n (pc := 6) hx hb d_cu_valueAt_6 rfl (lv_at hl 1 rfl) ?_
  refine lv_lmul (pc := 7) hx hb d_cu_valueAt_7 ?_
  refine lv_aload_n (pc := 8) hx hb d_cu_valueAt_8 rfl (lv_at hl 0 rfl) ?_
  refine va_get (pc := 9) (D := D) (ci := 0) (v := .long li) (C := "TorsionDesk$Cubic") (T := tX0) (N := 5) hx hb hB lX0 hown hK hP 0 rfl rfl 1 (by decide) (hB _ zw_30) (fun _ h9 => h9) rfl d_cu_valueAt_9 ?_
  refine lv_ladd (pc := 12) hx hb d_cu_valueAt_12 ?_
  refine lv_lload_n (pc := 13) hx hb d_cu_valueAt_13 rfl (lv_at hl 1 rfl) ?_
  refine lv_lmul (pc := 14) hx hb d_cu_valueAt_14 ?_
  refine lv_aload_n (pc := 15) hx hb d_cu_valueAt_15 rfl (lv_at hl 0 rfl) ?_
  refine va_get (pc := 16) (D := D) (ci := 0) (v := .long co) (C := "TorsionDesk$Cubic") (T := tX0) (N := 5) hx hb hB lX0 hown hK hP 0 rfl rfl 2 (by decide) (hB _ zw_31) (fun _ h9 => h9) rfl d_cu_valueAt_16 ?_
  refine lv_ladd (pc := 19) hx hb d_cu_valueAt_19 ?_
  subst hm
  rw [hQ]
  exact W.lret (pc := 20) hx hb hr (fun t ht _ => ⟨rfl, ht⟩) (fun _ h9 => nomatch h9) d_cu_valueAt_20
abbrev rm_cu_steepnessAt : Room := { frames := 0, cells := 0, slots := 0, locals := 0 }
def a_cu_steepnessAt (sq : Int64) (li : Int64) (j1 : Int64) : Int64 := ((((3 : Int64) * j1) + ((2 : Int64) * sq)) * j1) + li
set_option maxHeartbeats 4000000 in
set_option maxRecDepth 100000 in
theorem w_a_cu_steepnessAt (l : Launch) (D : va_G) (cI cJ : ClassId) (qu : Nat) (qr : Nat) (sq : Int64) (li : Int64) (co : Int64) (di : Int64) (rc : Nat → Int32) (j1 : Int64) (r0 : Int64) (hm : a_cu_steepnessAt sq li j1 = r0) : Met l y_cu_steepnessAt zs_cu_steepnessAt rm_cu_steepnessAt (zPc [.ref qu, .long j1] D [(qu, .inr (0, [.long sq, .long li, .long co, .long di, .ref qr])), (qr, .inl (cI, 97, .inl rc))] [(cI, .int), (cJ, .long)]) (zRd (some (.long r0))) 0 0 (fun _ => False) := by
  refine zm (by decide) (Nat.le_of_ble_eq_true rfl) ?_
  intro p e s m args below meth c R Q hR hQ hargs hx hb hml hr hlocks hnm hB hown hP hK hD0 ls hl
  have hown : s.vm.findClass "TorsionDesk$Cubic" = some m.cls := hown
  have hl : lv_has ls 3 [(0, .ref qu), (1, .long j1)] := hl
  rw [a_cu_steepnessAt] at hm
  refine lv_ldc2 (pc := 0) (v := (3 : Int64)) hx hb hown (hB _ zw_152) d_cu_steepnessAt_0 ?_
  refine lv_lload_n (pc := 3) hx hb d_cu_steepnessAt_3 rfl (lv_at hl 1 rfl) ?_
  refine lv_lmul (pc := 4) hx hb d_cu_steepnessAt_4 ?_
  refine lv_ldc2 (pc := 5) (v := (2 : Int64)) hx hb hown (hB _ zw_153) d_cu_steepnessAt_5 ?_
  refine lv_aload_n (pc := 8) hx hb d_cu_steepnessAt_8 rfl (lv_at hl 0 rfl) ?_
  refine va_get (pc := 9) (D := D) (ci := 0) (v := .long sq) (C := "TorsionDesk$Cubic") (T := tX0) (N := 5) hx hb hB lX0 hown hK hP 0 rfl rfl 0 (by decide) (hB _ zw_28) (fun _ h9 => h9) rfl d_cu_steepnessAt_9 ?_
  refine lv_lmul (pc := 12) hx hb d_cu_steepnessAt_12 ?_
  refine lv_ladd (pc := 13) hx hb d_cu_steepnessAt_13 ?_
  refine lv_lload_n (pc := 14) hx hb d_cu_steepnessAt_14 rfl (lv_at hl 1 rfl) ?_
  refine lv_lmul (pc := 15) hx hb d_cu_steepnessAt_15 ?_
  refine lv_aload_n (pc := 16) hx hb d_cu_steepnessAt_16 rfl (lv_at hl 0 rfl) ?_
  refine va_get (pc := 17) (D := D) (ci := 0) (v := .long li) (C := "TorsionDesk$Cubic") (T := tX0) (N := 5) hx hb hB lX0 hown hK hP 0 rfl rfl 1 (by decide) (hB _ zw_30) (fun _ h9 => h9) rfl d_cu_steepnessAt_17 ?_
  refine lv_ladd (pc := 20) hx hb d_cu_steepnessAt_20 ?_
  subst hm
  rw [hQ]
  exact W.lret (pc := 21) hx hb hr (fun t ht _ => ⟨rfl, ht⟩) (fun _ h9 => nomatch h9) d_cu_steepnessAt_21
abbrev rm_cu_isGoodFor : Room := { frames := 0, cells := 0, slots := 0, locals := 0 }
def a_cu_isGoodFor (di : Int64) (i1 : Int32) : Option (Int32) := (if i1 ≤ 0 then (some (0 : Int32)) else (if i1.toInt64 = 0 then none else (if (di - di / i1.toInt64 * i1.toInt64) = (0 : Int64) then (some (0 : Int32)) else (some (1 : Int32)))))
set_option maxHeartbeats 4000000 in
set_option maxRecDepth 100000 in
theorem w_a_cu_isGoodFor (l : Launch) (D : va_G) (cI cJ : ClassId) (qu : Nat) (qr : Nat) (sq : Int64) (li : Int64) (co : Int64) (di : Int64) (rc : Nat → Int32) (i1 : Int32) (r0 : Int32) (hm : a_cu_isGoodFor di i1 = some r0) : Met l y_cu_isGoodFor zs_cu_isGoodFor rm_cu_isGoodFor (zPc [.ref qu, .int i1] D [(qu, .inr (0, [.long sq, .long li, .long co, .long di, .ref qr])), (qr, .inl (cI, 97, .inl rc))] [(cI, .int), (cJ, .long)]) (zRd (some (.int r0))) 0 0 (fun _ => False) := by
  refine zm (by decide) (Nat.le_of_ble_eq_true rfl) ?_
  intro p e s m args below meth c R Q hR hQ hargs hx hb hml hr hlocks hnm hB hown hP hK hD0 ls hl
  have hown : s.vm.findClass "TorsionDesk$Cubic" = some m.cls := hown
  have hl : lv_has ls 2 [(0, .ref qu), (1, .int i1)] := hl
  rw [a_cu_isGoodFor] at hm
  refine lv_iload_n (pc := 0) hx hb d_cu_isGoodFor_0 rfl (lv_at hl 1 rfl) ?_
  refine lv_if_le (pc := 1) (tgt := 20) hx hb d_cu_isGoodFor_1 rfl (fun h1 => ?_) (fun h1 => ?_)
  · rw [if_pos h1] at hm
    refine lv_iconst (pc := 20) (v := (0 : Int32)) hx hb d_cu_isGoodFor_20 (by decide) ?_
    cases hm
    rw [hQ]
    exact W.zret (pc := 21) hx hb hr rfl (fun t ht _ => ⟨rfl, ht⟩) (fun _ h9 => nomatch h9) d_cu_isGoodFor_21
  rw [if_neg h1] at hm
  refine lv_aload_n (pc := 4) hx hb d_cu_isGoodFor_4 rfl (lv_at hl 0 rfl) ?_
  refine va_get (pc := 5) (D := D) (ci := 0) (v := .long di) (C := "TorsionDesk$Cubic") (T := tX0) (N := 5) hx hb hB lX0 hown hK hP 0 rfl rfl 3 (by decide) (hB _ zw_33) (fun _ h9 => h9) rfl d_cu_isGoodFor_5 ?_
  refine lv_iload_n (pc := 8) hx hb d_cu_isGoodFor_8 rfl (lv_at hl 1 rfl) ?_
  refine lv_i2l (pc := 9) hx hb d_cu_isGoodFor_9 rfl ?_
  by_cases g2 : i1.toInt64 = 0
  · rw [if_pos g2] at hm; cases hm
  rw [if_neg g2] at hm
  refine lv_lrem (pc := 10) hx hb d_cu_isGoodFor_10 g2 ?_
  refine lv_lconst (pc := 11) (v := (0 : Int64)) hx hb d_cu_isGoodFor_11 (by decide) ?_
  refine zl_eq (pc := 12) (tgt := 20) hx hb d_cu_isGoodFor_12 d_cu_isGoodFor_13 rfl (fun h3 => ?_) (fun h3 => ?_)
  · rw [if_pos h3] at hm
    refine lv_iconst (pc := 20) (v := (0 : Int32)) hx hb d_cu_isGoodFor_20 (by decide) ?_
    cases hm
    rw [hQ]
    exact W.zret (pc := 21) hx hb hr rfl (fun t ht _ => ⟨rfl, ht⟩) (fun _ h9 => nomatch h9) d_cu_isGoodFor_21
  rw [if_neg h3] at hm
  refine lv_iconst (pc := 16) (v := (1 : Int32)) hx hb d_cu_isGoodFor_16 (by decide) ?_
  refine lv_goto (pc := 17) (tgt := 21) hx hb d_cu_isGoodFor_17 rfl ?_
  cases hm
  rw [hQ]
  exact W.zret (pc := 21) hx hb hr rfl (fun t ht _ => ⟨rfl, ht⟩) (fun _ h9 => nomatch h9) d_cu_isGoodFor_21
abbrev rm_cu_become : Room := { frames := 1, cells := 0, slots := 0, locals := 25 }
def a_cu_become (j1 : Int64) (j2 : Int64) (j3 : Int64) : Option (Int64 × Int64 × Int64 × Int64) := (some (j1, j2, j3, a_cu_discriminantOf j1 j2 j3))
set_option maxHeartbeats 4000000 in
set_option maxRecDepth 100000 in
theorem w_a_cu_become (l : Launch) (D : va_G) (cI cJ : ClassId) (qu : Nat) (qr : Nat) (sq : Int64) (li : Int64) (co : Int64) (di : Int64) (rc : Nat → Int32) (j1 : Int64) (j2 : Int64) (j3 : Int64) (r0 : Int64) (r1 : Int64) (r2 : Int64) (r3 : Int64) (hm : a_cu_become j1 j2 j3 = some (r0, r1, r2, r3)) : Met l y_cu_become zs_cu_become rm_cu_become (zPc [.ref qu, .long j1, .long j2, .long j3] D [(qu, .inr (0, [.long sq, .long li, .long co, .long di, .ref qr])), (qr, .inl (cI, 97, .inl rc))] [(cI, .int), (cJ, .long)]) (zWr none D (zIn [(qu, .inr (0, [.long sq, .long li, .long co, .long di, .ref qr])), (qr, .inl (cI, 97, .inl rc))]) [(qu, .inr (0, [.long r0, .long r1, .long r2, .long r3, .ref qr])), (qr, .inl (cI, 97, .inl rc))]) 0 0 (zIn [(qu, .inr (0, [.long sq, .long li, .long co, .long di, .ref qr])), (qr, .inl (cI, 97, .inl rc))]) := by
  refine zm (by decide) (Nat.le_of_ble_eq_true rfl) ?_
  intro p e s m args below meth c R Q hR hQ hargs hx hb hml hr hlocks hnm hB hown hP hK hD0 ls hl
  have hown : s.vm.findClass "TorsionDesk$Cubic" = some m.cls := hown
  have hl : lv_has ls 7 [(0, .ref qu), (1, .long j1), (3, .long j2), (5, .long j3)] := hl
  obtain ⟨A, hA⟩ : ∃ A, A = zIn [(qu, .inr (0, [.long sq, .long li, .long co, .long di, .ref qr])), (qr, .inl (cI, 97, .inl rc))] := ⟨_, rfl⟩
  have hD : va_D A [(qu, .inr (0, [.long sq, .long li, .long co, .long di, .ref qr])), (qr, .inl (cI, 97, .inl rc))] := by rw [hA]; exact zIn_self hD0
  have hS : va_S A s.heap s.heap [] := va_S.rf
  rw [← hA] at hQ
  rw [a_cu_become] at hm
  refine lv_aload_n (pc := 0) hx hb d_cu_become_0 rfl (lv_at hl 0 rfl) ?_
  refine lv_lload_n (pc := 1) hx hb d_cu_become_1 rfl (lv_at hl 1 rfl) ?_
  refine va_put (pc := 2) (D := D) (ci := 0) (v := .long j1) (ty := .long) (C := "TorsionDesk$Cubic") (T := tX0) (N := 5) hx hb hB lX0 yX0 yX0_ok nX0 hown hK hP hD hS 0 rfl rfl 0 (by decide) (hB _ zw_28) (fun _ h9 => h9) rfl (by decide +kernel) rfl rfl (Nat.le_of_ble_eq_true rfl) d_cu_become_2 (fun H locs hP hD hS => ?_)
  have hP : va_P D vwCl [(qu, .inr (0, [.long j1, .long li, .long co, .long di, .ref qr])), (qr, .inl (cI, 97, .inl rc))] H := hP
  have hD : va_D A [(qu, .inr (0, [.long j1, .long li, .long co, .long di, .ref qr])), (qr, .inl (cI, 97, .inl rc))] := hD
  refine lv_aload_n (pc := 5) hx hb d_cu_become_5 rfl (lv_at hl 0 rfl) ?_
  refine lv_lload_n (pc := 6) hx hb d_cu_become_6 rfl (lv_at hl 2 rfl) ?_
  refine va_put (pc := 7) (D := D) (ci := 0) (v := .long j2) (ty := .long) (C := "TorsionDesk$Cubic") (T := tX0) (N := 5) hx hb hB lX0 yX0 yX0_ok nX0 hown hK hP hD hS 0 rfl rfl 1 (by decide) (hB _ zw_30) (fun _ h9 => h9) rfl (by decide +kernel) rfl rfl (Nat.le_of_ble_eq_true rfl) d_cu_become_7 (fun H locs hP hD hS => ?_)
  have hP : va_P D vwCl [(qu, .inr (0, [.long j1, .long j2, .long co, .long di, .ref qr])), (qr, .inl (cI, 97, .inl rc))] H := hP
  have hD : va_D A [(qu, .inr (0, [.long j1, .long j2, .long co, .long di, .ref qr])), (qr, .inl (cI, 97, .inl rc))] := hD
  refine lv_aload_n (pc := 10) hx hb d_cu_become_10 rfl (lv_at hl 0 rfl) ?_
  refine lv_lload (pc := 11) hx hb d_cu_become_11 (lv_at hl 3 rfl) ?_
  refine va_put (pc := 13) (D := D) (ci := 0) (v := .long j3) (ty := .long) (C := "TorsionDesk$Cubic") (T := tX0) (N := 5) hx hb hB lX0 yX0 yX0_ok nX0 hown hK hP hD hS 0 rfl rfl 2 (by decide) (hB _ zw_31) (fun _ h9 => h9) rfl (by decide +kernel) rfl rfl (Nat.le_of_ble_eq_true rfl) d_cu_become_13 (fun H locs hP hD hS => ?_)
  have hP : va_P D vwCl [(qu, .inr (0, [.long j1, .long j2, .long j3, .long di, .ref qr])), (qr, .inl (cI, 97, .inl rc))] H := hP
  have hD : va_D A [(qu, .inr (0, [.long j1, .long j2, .long j3, .long di, .ref qr])), (qr, .inl (cI, 97, .inl rc))] := hD
  refine lv_aload_n (pc := 16) hx hb d_cu_become_16 rfl (lv_at hl 0 rfl) ?_
  refine lv_lload_n (pc := 17) hx hb d_cu_become_17 rfl (lv_at hl 1 rfl) ?_
  refine lv_lload_n (pc := 18) hx hb d_cu_become_18 rfl (lv_at hl 2 rfl) ?_
  refine lv_lload (pc := 19) hx hb d_cu_become_19 (lv_at hl 3 rfl) ?_
  refine zcS (pc := 21) (As := [.long j1, .long j2, .long j3]) (rest := [.ref qu]) ⟨hx, hb, hml, hown, hB⟩ (w_a_cu_discriminantOf l D cI cJ j1 j2 j3 _ rfl) (va_cwS 3 hB (zgS zw_336 zw_311 zw_2 zw_312) rfl rfl rfl (by decide +kernel) ⟨by rw [hR]; exact Nat.le_of_ble_eq_true rfl, by rw [hR]; exact Nat.le_of_ble_eq_true rfl⟩) hK (hP.sub (ws' := []) [] rfl) (hD0.sub (ws' := []) [] (by decide) rfl) rfl hl.1 rfl (Nat.le_of_ble_eq_true rfl) d_cu_become_21 ⟨Nat.zero_le _, Nat.zero_le _⟩ ?_
  refine va_put (pc := 24) (D := D) (ci := 0) (v := .long (a_cu_discriminantOf j1 j2 j3)) (ty := .long) (C := "TorsionDesk$Cubic") (T := tX0) (N := 5) hx hb hB lX0 yX0 yX0_ok nX0 hown hK hP hD hS 0 rfl rfl 3 (by decide) (hB _ zw_33) (fun _ h9 => h9) rfl (by decide +kernel) rfl rfl (Nat.le_of_ble_eq_true rfl) d_cu_become_24 (fun H locs hP hD hS => ?_)
  have hP : va_P D vwCl [(qu, .inr (0, [.long j1, .long j2, .long j3, .long (a_cu_discriminantOf j1 j2 j3), .ref qr])), (qr, .inl (cI, 97, .inl rc))] H := hP
  have hD : va_D A [(qu, .inr (0, [.long j1, .long j2, .long j3, .long (a_cu_discriminantOf j1 j2 j3), .ref qr])), (qr, .inl (cI, 97, .inl rc))] := hD
  cases hm
  rw [hQ]
  exact W.vret (pc := 27) hx hb hr (fun t ht _ => ⟨rfl, by rw [ht]; exact hP, hS.F ht⟩) hS.2.2 d_cu_become_27
abbrev rm_fp_has : Room := { frames := 0, cells := 0, slots := 0, locals := 0 }
def a_fp_has (fn : Int32) (i1 : Int32) : Int32 := (if i1 < 0 then (0 : Int32) else (if fn ≤ i1 then (0 : Int32) else (1 : Int32)))
set_option maxHeartbeats 4000000 in
set_option maxRecDepth 100000 in
theorem w_a_fp_has (l : Launch) (D : va_G) (cI cJ : ClassId) (qf : Nat) (qx : Nat) (qy : Nat) (qo : Nat) (fn : Int32) (xs : Nat → Int32) (ys : Nat → Int32) (os : Nat → Int32) (i1 : Int32) (r0 : Int32) (hm : a_fp_has fn i1 = r0) : Met l y_fp_has zs_fp_has rm_fp_has (zPc [.ref qf, .int i1] D [(qf, .inr (1, [.ref qx, .ref qy, .ref qo, .int fn])), (qx, .inl (cI, 32, .inl xs)), (qy, .inl (cI, 32, .inl ys)), (qo, .inl (cI, 32, .inl os))] [(cI, .int), (cJ, .long)]) (zRd (some (.int r0))) 0 0 (fun _ => False) := by
  refine zm (by decide) (Nat.le_of_ble_eq_true rfl) ?_
  intro p e s m args below meth c R Q hR hQ hargs hx hb hml hr hlocks hnm hB hown hP hK hD0 ls hl
  have hown : s.vm.findClass "TorsionDesk$FinitePoints" = some m.cls := hown
  have hl : lv_has ls 2 [(0, .ref qf), (1, .int i1)] := hl
  rw [a_fp_has] at hm
  refine lv_iload_n (pc := 0) hx hb d_fp_has_0 rfl (lv_at hl 1 rfl) ?_
  refine lv_if_lt (pc := 1) (tgt := 16) hx hb d_fp_has_1 rfl (fun h1 => ?_) (fun h1 => ?_)
  · rw [if_pos h1] at hm
    refine lv_iconst (pc := 16) (v := (0 : Int32)) hx hb d_fp_has_16 (by decide) ?_
    subst hm
    rw [hQ]
    exact W.zret (pc := 17) hx hb hr rfl (fun t ht _ => ⟨rfl, ht⟩) (fun _ h9 => nomatch h9) d_fp_has_17
  rw [if_neg h1] at hm
  refine lv_iload_n (pc := 4) hx hb d_fp_has_4 rfl (lv_at hl 1 rfl) ?_
  refine lv_aload_n (pc := 5) hx hb d_fp_has_5 rfl (lv_at hl 0 rfl) ?_
  refine va_get (pc := 6) (D := D) (ci := 1) (v := .int fn) (C := "TorsionDesk$FinitePoints") (T := tX1) (N := 4) hx hb hB lX1 hown hK hP 0 rfl rfl 3 (by decide) (hB _ zw_78) (fun _ h9 => h9) rfl d_fp_has_6 ?_
  refine lv_icmp_ge (pc := 9) (tgt := 16) hx hb d_fp_has_9 rfl (fun h2 => ?_) (fun h2 => ?_)
  · rw [if_pos h2] at hm
    refine lv_iconst (pc := 16) (v := (0 : Int32)) hx hb d_fp_has_16 (by decide) ?_
    subst hm
    rw [hQ]
    exact W.zret (pc := 17) hx hb hr rfl (fun t ht _ => ⟨rfl, ht⟩) (fun _ h9 => nomatch h9) d_fp_has_17
  rw [if_neg h2] at hm
  refine lv_iconst (pc := 12) (v := (1 : Int32)) hx hb d_fp_has_12 (by decide) ?_
  refine lv_goto (pc := 13) (tgt := 17) hx hb d_fp_has_13 rfl ?_
  subst hm
  rw [hQ]
  exact W.zret (pc := 17) hx hb hr rfl (fun t ht _ => ⟨rfl, ht⟩) (fun _ h9 => nomatch h9) d_fp_has_17
abbrev rm_fp_numberOf : Room := { frames := 0, cells := 0, slots := 0, locals := 0 }
def a_fp_numberOf_L3 (fn : Int32) (xs : Nat → Int32) (ys : Nat → Int32) (j1 : Int64) (j2 : Int64) : Nat → Int32 → Option (Int32)
  | 0, _ => none
  | n + 1, x5_3 => (if fn ≤ x5_3 then (some (-1 : Int32)) else (if (x5_3 < 0 ∨ 32 ≤ x5_3.toNatClampNeg) then none else (if ((xs x5_3.toNatClampNeg).toInt64) = j1 then (if ((ys x5_3.toNatClampNeg).toInt64) = j2 then (some x5_3) else a_fp_numberOf_L3 fn xs ys j1 j2 n (x5_3 + (1 : Int32))) else a_fp_numberOf_L3 fn xs ys j1 j2 n (x5_3 + (1 : Int32)))))
def a_fp_numberOf (N : Nat) (fn : Int32) (xs : Nat → Int32) (ys : Nat → Int32) (j1 : Int64) (j2 : Int64) : Option (Int32) := a_fp_numberOf_L3 fn xs ys j1 j2 N (1 : Int32)
set_option maxHeartbeats 4000000 in
set_option maxRecDepth 100000 in
theorem w_a_fp_numberOf (l : Launch) (D : va_G) (cI cJ : ClassId) (qf : Nat) (qx : Nat) (qy : Nat) (qo : Nat) (fn : Int32) (xs : Nat → Int32) (ys : Nat → Int32) (os : Nat → Int32) (j1 : Int64) (j2 : Int64) (N : Nat) (r0 : Int32) (hm : a_fp_numberOf N fn xs ys j1 j2 = some r0) : Met l y_fp_numberOf zs_fp_numberOf rm_fp_numberOf (zPc [.ref qf, .long j1, .long j2] D [(qf, .inr (1, [.ref qx, .ref qy, .ref qo, .int fn])), (qx, .inl (cI, 32, .inl xs)), (qy, .inl (cI, 32, .inl ys)), (qo, .inl (cI, 32, .inl os))] [(cI, .int), (cJ, .long)]) (zRd (some (.int r0))) 0 0 (fun _ => False) := by
  refine zm (by decide) (Nat.le_of_ble_eq_true rfl) ?_
  intro p e s m args below meth c R Q hR hQ hargs hx hb hml hr hlocks hnm hB hown hP hK hD0 ls hl
  have hown : s.vm.findClass "TorsionDesk$FinitePoints" = some m.cls := hown
  have hl : lv_has ls 6 [(0, .ref qf), (1, .long j1), (3, .long j2)] := hl
  have k3 : ∀ (n : Nat) (x5_3 : Int32) (ls : Array Slot), lv_has ls 6 [(0, .ref qf), (1, .long j1), (3, .long j2), (5, .int x5_3)] → a_fp_numberOf_L3 fn xs ys j1 j2 n x5_3 = some r0 → W p l e R s m args below meth c s.heap [] 0 0 Q (F0 m 3 ls []) := by
    intro n
    induction n with
    | zero => intro x5_3  ls hl hm; rw [a_fp_numberOf_L3] at hm; cases hm
    | succ n ih =>
      intro x5_3  ls hl hm
      rw [a_fp_numberOf_L3] at hm
      refine lv_iload (pc := 3) hx hb d_fp_numberOf_3 (lv_at hl 3 rfl) ?_
      refine lv_aload_n (pc := 5) hx hb d_fp_numberOf_5 rfl (lv_at hl 0 rfl) ?_
      refine va_get (pc := 6) (D := D) (ci := 1) (v := .int fn) (C := "TorsionDesk$FinitePoints") (T := tX1) (N := 4) hx hb hB lX1 hown hK hP 0 rfl rfl 3 (by decide) (hB _ zw_78) (fun _ h9 => h9) rfl d_fp_numberOf_6 ?_
      refine lv_icmp_ge (pc := 9) (tgt := 47) hx hb d_fp_numberOf_9 rfl (fun h1 => ?_) (fun h1 => ?_)
      · rw [if_pos h1] at hm
        refine lv_iconst (pc := 47) (v := (-1 : Int32)) hx hb d_fp_numberOf_47 (by decide) ?_
        cases hm
        rw [hQ]
        exact W.iret (pc := 48) hx hb hr (fun t ht _ => ⟨rfl, ht⟩) (fun _ h9 => nomatch h9) d_fp_numberOf_48
      rw [if_neg h1] at hm
      refine lv_aload_n (pc := 12) hx hb d_fp_numberOf_12 rfl (lv_at hl 0 rfl) ?_
      refine va_get (pc := 13) (D := D) (ci := 1) (v := .ref qx) (C := "TorsionDesk$FinitePoints") (T := tX1) (N := 4) hx hb hB lX1 hown hK hP 0 rfl rfl 0 (by decide) (hB _ zw_72) (fun _ h9 => h9) rfl d_fp_numberOf_13 ?_
      refine lv_iload (pc := 16) hx hb d_fp_numberOf_16 (lv_at hl 3 rfl) ?_
      by_cases g2 : (x5_3 < 0 ∨ 32 ≤ x5_3.toNatClampNeg)
      · rw [if_pos g2] at hm; cases hm
      rw [if_neg g2] at hm
      refine va_iald (pc := 18) hx hb hK hP 1 0 rfl rfl g2 d_fp_numberOf_18 ?_
      refine lv_i2l (pc := 19) hx hb d_fp_numberOf_19 rfl ?_
      refine lv_lload_n (pc := 20) hx hb d_fp_numberOf_20 rfl (lv_at hl 1 rfl) ?_
      refine zl_ne (pc := 21) (tgt := 41) hx hb d_fp_numberOf_21 d_fp_numberOf_22 rfl (fun h3 => ?_) (fun h3 => ?_)
      · rw [if_neg h3] at hm
        refine lv_iinc (pc := 41) (k := 3) (v := x5_3 + (1 : Int32)) (lv' := [(5, .int (x5_3 + (1 : Int32))), (0, .ref qf), (1, .long j1), (3, .long j2)]) hx hb d_fp_numberOf_41 hl rfl (congrArg (x5_3 + ·) (by decide)) (Nat.le_of_ble_eq_true rfl) rfl (fun ls hl => ?_)
        refine lv_goto (pc := 44) (tgt := 3) hx hb d_fp_numberOf_44 rfl ?_
        exact ih (x5_3 + (1 : Int32)) ls (lv_sub hl [1, 2, 3, 0] rfl) hm
      rw [if_pos h3] at hm
      refine lv_aload_n (pc := 25) hx hb d_fp_numberOf_25 rfl (lv_at hl 0 rfl) ?_
      refine va_get (pc := 26) (D := D) (ci := 1) (v := .ref qy) (C := "TorsionDesk$FinitePoints") (T := tX1) (N := 4) hx hb hB lX1 hown hK hP 0 rfl rfl 1 (by decide) (hB _ zw_74) (fun _ h9 => h9) rfl d_fp_numberOf_26 ?_
      refine lv_iload (pc := 29) hx hb d_fp_numberOf_29 (lv_at hl 3 rfl) ?_
      refine va_iald (pc := 31) hx hb hK hP 2 0 rfl rfl g2 d_fp_numberOf_31 ?_
      refine lv_i2l (pc := 32) hx hb d_fp_numberOf_32 rfl ?_
      refine lv_lload_n (pc := 33) hx hb d_fp_numberOf_33 rfl (lv_at hl 2 rfl) ?_
      refine zl_ne (pc := 34) (tgt := 41) hx hb d_fp_numberOf_34 d_fp_numberOf_35 rfl (fun h4 => ?_) (fun h4 => ?_)
      · rw [if_neg h4] at hm
        refine lv_iinc (pc := 41) (k := 3) (v := x5_3 + (1 : Int32)) (lv' := [(5, .int (x5_3 + (1 : Int32))), (0, .ref qf), (1, .long j1), (3, .long j2)]) hx hb d_fp_numberOf_41 hl rfl (congrArg (x5_3 + ·) (by decide)) (Nat.le_of_ble_eq_true rfl) rfl (fun ls hl => ?_)
        refine lv_goto (pc := 44) (tgt := 3) hx hb d_fp_numberOf_44 rfl ?_
        exact ih (x5_3 + (1 : Int32)) ls (lv_sub hl [1, 2, 3, 0] rfl) hm
      rw [if_pos h4] at hm
      refine lv_iload (pc := 38) hx hb d_fp_numberOf_38 (lv_at hl 3 rfl) ?_
      cases hm
      rw [hQ]
      exact W.iret (pc := 40) hx hb hr (fun t ht _ => ⟨rfl, ht⟩) (fun _ h9 => nomatch h9) d_fp_numberOf_40
  rw [a_fp_numberOf] at hm
  refine lv_iconst (pc := 0) (v := (1 : Int32)) hx hb d_fp_numberOf_0 (by decide) ?_
  refine lv_istore (pc := 1) (lv' := [(5, .int (1 : Int32)), (0, .ref qf), (1, .long j1), (3, .long j2)]) hx hb d_fp_numberOf_1 hl (Nat.le_of_ble_eq_true rfl) rfl (fun ls hl => ?_)
  exact k3 N (1 : Int32) ls (lv_sub hl [1, 2, 3, 0] rfl) hm
abbrev rm_fp_added : Room := { frames := 1, cells := 0, slots := 0, locals := 25 }
def a_fp_added (N : Nat) (fn : Int32) (xs : Nat → Int32) (ys : Nat → Int32) (sq : Int64) (li : Int64) (i2 : Int32) (i3 : Int32) : Option (Int32) := (if (a_fp_has fn i2) = 0 then (some (-1 : Int32)) else (if (a_fp_has fn i3) = 0 then (some (-1 : Int32)) else (if i2 = 0 then (some (i2 + i3)) else (if i3 = 0 then (some (i2 + i3)) else (if (i2 < 0 ∨ 32 ≤ i2.toNatClampNeg) then none else (if (i3 < 0 ∨ 32 ≤ i3.toNatClampNeg) then none else (if ((xs i3.toNatClampNeg).toInt64) = ((xs i2.toNatClampNeg).toInt64) then (if ((ys i3.toNatClampNeg).toInt64) = (-((ys i2.toNatClampNeg).toInt64)) then (some (0 : Int32)) else (if ((2 : Int64) * ((ys i2.toNatClampNeg).toInt64)) = (0 : Int64) then (some (-1 : Int32)) else (if ((2 : Int64) * ((ys i2.toNatClampNeg).toInt64)) = 0 then none else (if ((a_cu_steepnessAt sq li ((xs i2.toNatClampNeg).toInt64)) - (a_cu_steepnessAt sq li ((xs i2.toNatClampNeg).toInt64)) / ((2 : Int64) * ((ys i2.toNatClampNeg).toInt64)) * ((2 : Int64) * ((ys i2.toNatClampNeg).toInt64))) = (0 : Int64) then ((a_fp_numberOf N fn xs ys ((((((a_cu_steepnessAt sq li ((xs i2.toNatClampNeg).toInt64)) / ((2 : Int64) * ((ys i2.toNatClampNeg).toInt64))) * ((a_cu_steepnessAt sq li ((xs i2.toNatClampNeg).toInt64)) / ((2 : Int64) * ((ys i2.toNatClampNeg).toInt64)))) - sq) - ((xs i2.toNatClampNeg).toInt64)) - ((xs i3.toNatClampNeg).toInt64)) (-(((ys i2.toNatClampNeg).toInt64) + (((a_cu_steepnessAt sq li ((xs i2.toNatClampNeg).toInt64)) / ((2 : Int64) * ((ys i2.toNatClampNeg).toInt64))) * (((((((a_cu_steepnessAt sq li ((xs i2.toNatClampNeg).toInt64)) / ((2 : Int64) * ((ys i2.toNatClampNeg).toInt64))) * ((a_cu_steepnessAt sq li ((xs i2.toNatClampNeg).toInt64)) / ((2 : Int64) * ((ys i2.toNatClampNeg).toInt64)))) - sq) - ((xs i2.toNatClampNeg).toInt64)) - ((xs i3.toNatClampNeg).toInt64)) - ((xs i2.toNatClampNeg).toInt64)))))).bind (fun r_c205 => (some r_c205))) else (some (-1 : Int32)))))) else (if (((xs i3.toNatClampNeg).toInt64) - ((xs i2.toNatClampNeg).toInt64)) = (0 : Int64) then (some (-1 : Int32)) else (if (((xs i3.toNatClampNeg).toInt64) - ((xs i2.toNatClampNeg).toInt64)) = 0 then none else (if ((((ys i3.toNatClampNeg).toInt64) - ((ys i2.toNatClampNeg).toInt64)) - (((ys i3.toNatClampNeg).toInt64) - ((ys i2.toNatClampNeg).toInt64)) / (((xs i3.toNatClampNeg).toInt64) - ((xs i2.toNatClampNeg).toInt64)) * (((xs i3.toNatClampNeg).toInt64) - ((xs i2.toNatClampNeg).toInt64))) = (0 : Int64) then ((a_fp_numberOf N fn xs ys ((((((((ys i3.toNatClampNeg).toInt64) - ((ys i2.toNatClampNeg).toInt64)) / (((xs i3.toNatClampNeg).toInt64) - ((xs i2.toNatClampNeg).toInt64))) * ((((ys i3.toNatClampNeg).toInt64) - ((ys i2.toNatClampNeg).toInt64)) / (((xs i3.toNatClampNeg).toInt64) - ((xs i2.toNatClampNeg).toInt64)))) - sq) - ((xs i2.toNatClampNeg).toInt64)) - ((xs i3.toNatClampNeg).toInt64)) (-(((ys i2.toNatClampNeg).toInt64) + (((((ys i3.toNatClampNeg).toInt64) - ((ys i2.toNatClampNeg).toInt64)) / (((xs i3.toNatClampNeg).toInt64) - ((xs i2.toNatClampNeg).toInt64))) * (((((((((ys i3.toNatClampNeg).toInt64) - ((ys i2.toNatClampNeg).toInt64)) / (((xs i3.toNatClampNeg).toInt64) - ((xs i2.toNatClampNeg).toInt64))) * ((((ys i3.toNatClampNeg).toInt64) - ((ys i2.toNatClampNeg).toInt64)) / (((xs i3.toNatClampNeg).toInt64) - ((xs i2.toNatClampNeg).toInt64)))) - sq) - ((xs i2.toNatClampNeg).toInt64)) - ((xs i3.toNatClampNeg).toInt64)) - ((xs i2.toNatClampNeg).toInt64)))))).bind (fun r_c205 => (some r_c205))) else (some (-1 : Int32))))))))))))
set_option maxHeartbeats 4000000 in
set_option maxRecDepth 100000 in
theorem w_a_fp_added (l : Launch) (D : va_G) (cI cJ : ClassId) (qf : Nat) (qx : Nat) (qy : Nat) (qo : Nat) (fn : Int32) (xs : Nat → Int32) (ys : Nat → Int32) (os : Nat → Int32) (qu : Nat) (qr : Nat) (sq : Int64) (li : Int64) (co : Int64) (di : Int64) (rc : Nat → Int32) (i2 : Int32) (i3 : Int32) (N : Nat) (r0 : Int32) (hm : a_fp_added N fn xs ys sq li i2 i3 = some r0) : Met l y_fp_added zs_fp_added rm_fp_added (zPc [.ref qf, .ref qu, .int i2, .int i3] D [(qf, .inr (1, [.ref qx, .ref qy, .ref qo, .int fn])), (qx, .inl (cI, 32, .inl xs)), (qy, .inl (cI, 32, .inl ys)), (qo, .inl (cI, 32, .inl os)), (qu, .inr (0, [.long sq, .long li, .long co, .long di, .ref qr])), (qr, .inl (cI, 97, .inl rc))] [(cI, .int), (cJ, .long)]) (zRd (some (.int r0))) 0 0 (fun _ => False) := by
  refine zm (by decide) (Nat.le_of_ble_eq_true rfl) ?_
  intro p e s m args below meth c R Q hR hQ hargs hx hb hml hr hlocks hnm hB hown hP hK hD0 ls hl
  have hown : s.vm.findClass "TorsionDesk$FinitePoints" = some m.cls := hown
  have hl : lv_has ls 17 [(0, .ref qf), (1, .ref qu), (2, .int i2), (3, .int i3)] := hl
  rw [a_fp_added] at hm
  refine lv_aload_n (pc := 0) hx hb d_fp_added_0 rfl (lv_at hl 0 rfl) ?_
  refine lv_iload_n (pc := 1) hx hb d_fp_added_1 rfl (lv_at hl 2 rfl) ?_
  refine zcV (pc := 2) (As := [.int i2]) (rest := []) ⟨hx, hb, hml, hown, hB⟩ (w_a_fp_has l D cI cJ qf qx qy qo fn xs ys os i2 _ rfl) (cwV 1 hB (zgV zw_147 zw_125 zw_126 zw_4 zw_127) rfl rfl rfl (by decide +kernel) ⟨by rw [hR]; exact Nat.le_of_ble_eq_true rfl, by rw [hR]; exact Nat.le_of_ble_eq_true rfl⟩) hK (hP.sub (ws' := [(qf, .inr (1, [.ref qx, .ref qy, .ref qo, .int fn])), (qx, .inl (cI, 32, .inl xs)), (qy, .inl (cI, 32, .inl ys)), (qo, .inl (cI, 32, .inl os))]) [0, 1, 2, 3] rfl) (hD0.sub (ws' := [(qf, .inr (1, [.ref qx, .ref qy, .ref qo, .int fn])), (qx, .inl (cI, 32, .inl xs)), (qy, .inl (cI, 32, .inl ys)), (qo, .inl (cI, 32, .inl os))]) [0, 1, 2, 3] (by decide) rfl) rfl rfl rfl rfl hl.1 rfl (Nat.le_of_ble_eq_true rfl) d_fp_added_2 ⟨Nat.zero_le _, Nat.zero_le _⟩ ?_
  refine lv_if_eq (pc := 5) (tgt := 16) hx hb d_fp_added_5 rfl (fun h1 => ?_) (fun h1 => ?_)
  · rw [if_pos h1] at hm
    refine lv_iconst (pc := 16) (v := (-1 : Int32)) hx hb d_fp_added_16 (by decide) ?_
    cases hm
    rw [hQ]
    exact W.iret (pc := 17) hx hb hr (fun t ht _ => ⟨rfl, ht⟩) (fun _ h9 => nomatch h9) d_fp_added_17
  rw [if_neg h1] at hm
  refine lv_aload_n (pc := 8) hx hb d_fp_added_8 rfl (lv_at hl 0 rfl) ?_
  refine lv_iload_n (pc := 9) hx hb d_fp_added_9 rfl (lv_at hl 3 rfl) ?_
  refine zcV (pc := 10) (As := [.int i3]) (rest := []) ⟨hx, hb, hml, hown, hB⟩ (w_a_fp_has l D cI cJ qf qx qy qo fn xs ys os i3 _ rfl) (cwV 1 hB (zgV zw_147 zw_125 zw_126 zw_4 zw_127) rfl rfl rfl (by decide +kernel) ⟨by rw [hR]; exact Nat.le_of_ble_eq_true rfl, by rw [hR]; exact Nat.le_of_ble_eq_true rfl⟩) hK (hP.sub (ws' := [(qf, .inr (1, [.ref qx, .ref qy, .ref qo, .int fn])), (qx, .inl (cI, 32, .inl xs)), (qy, .inl (cI, 32, .inl ys)), (qo, .inl (cI, 32, .inl os))]) [0, 1, 2, 3] rfl) (hD0.sub (ws' := [(qf, .inr (1, [.ref qx, .ref qy, .ref qo, .int fn])), (qx, .inl (cI, 32, .inl xs)), (qy, .inl (cI, 32, .inl ys)), (qo, .inl (cI, 32, .inl os))]) [0, 1, 2, 3] (by decide) rfl) rfl rfl rfl rfl hl.1 rfl (Nat.le_of_ble_eq_true rfl) d_fp_added_10 ⟨Nat.zero_le _, Nat.zero_le _⟩ ?_
  refine lv_if_ne (pc := 13) (tgt := 18) hx hb d_fp_added_13 rfl (fun h2 => ?_) (fun h2 => ?_)
  · rw [if_neg h2] at hm
    refine lv_iload_n (pc := 18) hx hb d_fp_added_18 rfl (lv_at hl 2 rfl) ?_
    refine lv_if_eq (pc := 19) (tgt := 26) hx hb d_fp_added_19 rfl (fun h3 => ?_) (fun h3 => ?_)
    · rw [if_pos h3] at hm
      refine lv_iload_n (pc := 26) hx hb d_fp_added_26 rfl (lv_at hl 2 rfl) ?_
      refine lv_iload_n (pc := 27) hx hb d_fp_added_27 rfl (lv_at hl 3 rfl) ?_
      refine lv_iadd (pc := 28) hx hb d_fp_added_28 ?_
      cases hm
      rw [hQ]
      exact W.iret (pc := 29) hx hb hr (fun t ht _ => ⟨rfl, ht⟩) (fun _ h9 => nomatch h9) d_fp_added_29
    rw [if_neg h3] at hm
    refine lv_iload_n (pc := 22) hx hb d_fp_added_22 rfl (lv_at hl 3 rfl) ?_
    refine lv_if_ne (pc := 23) (tgt := 30) hx hb d_fp_added_23 rfl (fun h4 => ?_) (fun h4 => ?_)
    · rw [if_neg h4] at hm
      refine lv_aload_n (pc := 30) hx hb d_fp_added_30 rfl (lv_at hl 0 rfl) ?_
      refine va_get (pc := 31) (D := D) (ci := 1) (v := .ref qx) (C := "TorsionDesk$FinitePoints") (T := tX1) (N := 4) hx hb hB lX1 hown hK hP 0 rfl rfl 0 (by decide) (hB _ zw_72) (fun _ h9 => h9) rfl d_fp_added_31 ?_
      refine lv_iload_n (pc := 34) hx hb d_fp_added_34 rfl (lv_at hl 2 rfl) ?_
      by_cases g5 : (i2 < 0 ∨ 32 ≤ i2.toNatClampNeg)
      · rw [if_pos g5] at hm; cases hm
      rw [if_neg g5] at hm
      refine va_iald (pc := 35) hx hb hK hP 1 0 rfl rfl g5 d_fp_added_35 ?_
      refine lv_i2l (pc := 36) hx hb d_fp_added_36 rfl ?_
      refine lv_lstore (pc := 37) (lv' := [(4, .long ((xs i2.toNatClampNeg).toInt64)), (0, .ref qf), (1, .ref qu), (2, .int i2), (3, .int i3)]) hx hb d_fp_added_37 hl (Nat.le_of_ble_eq_true rfl) rfl (fun ls hl => ?_)
      refine lv_aload_n (pc := 39) hx hb d_fp_added_39 rfl (lv_at hl 1 rfl) ?_
      refine va_get (pc := 40) (D := D) (ci := 1) (v := .ref qy) (C := "TorsionDesk$FinitePoints") (T := tX1) (N := 4) hx hb hB lX1 hown hK hP 0 rfl rfl 1 (by decide) (hB _ zw_74) (fun _ h9 => h9) rfl d_fp_added_40 ?_
      refine lv_iload_n (pc := 43) hx hb d_fp_added_43 rfl (lv_at hl 3 rfl) ?_
      refine va_iald (pc := 44) hx hb hK hP 2 0 rfl rfl g5 d_fp_added_44 ?_
      refine lv_i2l (pc := 45) hx hb d_fp_added_45 rfl ?_
      refine lv_lstore (pc := 46) (lv' := [(6, .long ((ys i2.toNatClampNeg).toInt64)), (4, .long ((xs i2.toNatClampNeg).toInt64)), (0, .ref qf), (1, .ref qu), (2, .int i2), (3, .int i3)]) hx hb d_fp_added_46 hl (Nat.le_of_ble_eq_true rfl) rfl (fun ls hl => ?_)
      refine lv_aload_n (pc := 48) hx hb d_fp_added_48 rfl (lv_at hl 2 rfl) ?_
      refine va_get (pc := 49) (D := D) (ci := 1) (v := .ref qx) (C := "TorsionDesk$FinitePoints") (T := tX1) (N := 4) hx hb hB lX1 hown hK hP 0 rfl rfl 0 (by decide) (hB _ zw_72) (fun _ h9 => h9) rfl d_fp_added_49 ?_
      refine lv_iload_n (pc := 52) hx hb d_fp_added_52 rfl (lv_at hl 5 rfl) ?_
      by_cases g6 : (i3 < 0 ∨ 32 ≤ i3.toNatClampNeg)
      · rw [if_pos g6] at hm; cases hm
      rw [if_neg g6] at hm
      refine va_iald (pc := 53) hx hb hK hP 1 0 rfl rfl g6 d_fp_added_53 ?_
      refine lv_i2l (pc := 54) hx hb d_fp_added_54 rfl ?_
      refine lv_lload (pc := 55) hx hb d_fp_added_55 (lv_at hl 1 rfl) ?_
      refine zl_ne (pc := 57) (tgt := 65) hx hb d_fp_added_57 d_fp_added_58 rfl (fun h7 => ?_) (fun h7 => ?_)
      · rw [if_neg h7] at hm
        refine lv_iconst (pc := 65) (v := (0 : Int32)) hx hb d_fp_added_65 (by decide) ?_
        refine lv_istore (pc := 66) (lv' := [(8, .int (0 : Int32)), (6, .long ((ys i2.toNatClampNeg).toInt64)), (4, .long ((xs i2.toNatClampNeg).toInt64)), (0, .ref qf), (1, .ref qu), (2, .int i2), (3, .int i3)]) hx hb d_fp_added_66 hl (Nat.le_of_ble_eq_true rfl) rfl (fun ls hl => ?_)
        refine lv_iload (pc := 68) hx hb d_fp_added_68 (lv_at hl 0 rfl) ?_
        refine lv_if_eq (pc := 70) (tgt := 89) hx hb d_fp_added_70 rfl (fun _ => ?_) (fun h9 => absurd (by decide) h9)
        refine lv_iload (pc := 89) hx hb d_fp_added_89 (lv_at hl 0 rfl) ?_
        refine lv_if_eq (pc := 91) (tgt := 103) hx hb d_fp_added_91 rfl (fun _ => ?_) (fun h9 => absurd (by decide) h9)
        refine lv_aload_n (pc := 103) hx hb d_fp_added_103 rfl (lv_at hl 3 rfl) ?_
        refine va_get (pc := 104) (D := D) (ci := 1) (v := .ref qy) (C := "TorsionDesk$FinitePoints") (T := tX1) (N := 4) hx hb hB lX1 hown hK hP 0 rfl rfl 1 (by decide) (hB _ zw_74) (fun _ h9 => h9) rfl d_fp_added_104 ?_
        refine lv_iload_n (pc := 107) hx hb d_fp_added_107 rfl (lv_at hl 6 rfl) ?_
        refine va_iald (pc := 108) hx hb hK hP 2 0 rfl rfl g6 d_fp_added_108 ?_
        refine lv_i2l (pc := 109) hx hb d_fp_added_109 rfl ?_
        refine lv_lload (pc := 110) hx hb d_fp_added_110 (lv_at hl 1 rfl) ?_
        refine lv_lsub (pc := 112) hx hb d_fp_added_112 ?_
        refine lv_lstore (pc := 113) (lv' := [(9, .long (((ys i3.toNatClampNeg).toInt64) - ((ys i2.toNatClampNeg).toInt64))), (8, .int (0 : Int32)), (6, .long ((ys i2.toNatClampNeg).toInt64)), (4, .long ((xs i2.toNatClampNeg).toInt64)), (0, .ref qf), (1, .ref qu), (2, .int i2), (3, .int i3)]) hx hb d_fp_added_113 hl (Nat.le_of_ble_eq_true rfl) rfl (fun ls hl => ?_)
        refine lv_iload (pc := 115) hx hb d_fp_added_115 (lv_at hl 1 rfl) ?_
        refine lv_if_eq (pc := 117) (tgt := 129) hx hb d_fp_added_117 rfl (fun _ => ?_) (fun h9 => absurd (by decide) h9)
        refine lv_aload_n (pc := 129) hx hb d_fp_added_129 rfl (lv_at hl 4 rfl) ?_
        refine va_get (pc := 130) (D := D) (ci := 1) (v := .ref qx) (C := "TorsionDesk$FinitePoints") (T := tX1) (N := 4) hx hb hB lX1 hown hK hP 0 rfl rfl 0 (by decide) (hB _ zw_72) (fun _ h9 => h9) rfl d_fp_added_130 ?_
        refine lv_iload_n (pc := 133) hx hb d_fp_added_133 rfl (lv_at hl 7 rfl) ?_
        refine va_iald (pc := 134) hx hb hK hP 1 0 rfl rfl g6 d_fp_added_134 ?_
        refine lv_i2l (pc := 135) hx hb d_fp_added_135 rfl ?_
        refine lv_lload (pc := 136) hx hb d_fp_added_136 (lv_at hl 3 rfl) ?_
        refine lv_lsub (pc := 138) hx hb d_fp_added_138 ?_
        refine lv_lstore (pc := 139) (lv' := [(11, .long (((xs i3.toNatClampNeg).toInt64) - ((xs i2.toNatClampNeg).toInt64))), (9, .long (((ys i3.toNatClampNeg).toInt64) - ((ys i2.toNatClampNeg).toInt64))), (8, .int (0 : Int32)), (6, .long ((ys i2.toNatClampNeg).toInt64)), (4, .long ((xs i2.toNatClampNeg).toInt64)), (0, .ref qf), (1, .ref qu), (2, .int i2), (3, .int i3)]) hx hb d_fp_added_139 hl (Nat.le_of_ble_eq_true rfl) rfl (fun ls hl => ?_)
        refine lv_lload (pc := 141) hx hb d_fp_added_141 (lv_at hl 0 rfl) ?_
        refine lv_lconst (pc := 143) (v := (0 : Int64)) hx hb d_fp_added_143 (by decide) ?_
        refine zl_eq (pc := 144) (tgt := 158) hx hb d_fp_added_144 d_fp_added_145 rfl (fun h8 => ?_) (fun h8 => ?_)
        · rw [if_pos h8] at hm
          refine lv_iconst (pc := 158) (v := (-1 : Int32)) hx hb d_fp_added_158 (by decide) ?_
          cases hm
          rw [hQ]
          exact W.iret (pc := 159) hx hb hr (fun t ht _ => ⟨rfl, ht⟩) (fun _ h9 => nomatch h9) d_fp_added_159
        rw [if_neg h8] at hm
        refine lv_lload (pc := 148) hx hb d_fp_added_148 (lv_at hl 1 rfl) ?_
        refine lv_lload (pc := 150) hx hb d_fp_added_150 (lv_at hl 0 rfl) ?_
        by_cases g9 : (((xs i3.toNatClampNeg).toInt64) - ((xs i2.toNatClampNeg).toInt64)) = 0
        · rw [if_pos g9] at hm; cases hm
        rw [if_neg g9] at hm
        refine lv_lrem (pc := 152) hx hb d_fp_added_152 g9 ?_
        refine lv_lconst (pc := 153) (v := (0 : Int64)) hx hb d_fp_added_153 (by decide) ?_
        refine zl_eq (pc := 154) (tgt := 160) hx hb d_fp_added_154 d_fp_added_155 rfl (fun h10 => ?_) (fun h10 => ?_)
        · rw [if_pos h10] at hm
          refine lv_lload (pc := 160) hx hb d_fp_added_160 (lv_at hl 1 rfl) ?_
          refine lv_lload (pc := 162) hx hb d_fp_added_162 (lv_at hl 0 rfl) ?_
          refine lv_ldiv (pc := 164) hx hb d_fp_added_164 g9 ?_
          refine lv_lstore (pc := 165) (lv' := [(13, .long ((((ys i3.toNatClampNeg).toInt64) - ((ys i2.toNatClampNeg).toInt64)) / (((xs i3.toNatClampNeg).toInt64) - ((xs i2.toNatClampNeg).toInt64)))), (11, .long (((xs i3.toNatClampNeg).toInt64) - ((xs i2.toNatClampNeg).toInt64))), (9, .long (((ys i3.toNatClampNeg).toInt64) - ((ys i2.toNatClampNeg).toInt64))), (8, .int (0 : Int32)), (6, .long ((ys i2.toNatClampNeg).toInt64)), (4, .long ((xs i2.toNatClampNeg).toInt64)), (0, .ref qf), (1, .ref qu), (2, .int i2), (3, .int i3)]) hx hb d_fp_added_165 hl (Nat.le_of_ble_eq_true rfl) rfl (fun ls hl => ?_)
          refine lv_lload (pc := 167) hx hb d_fp_added_167 (lv_at hl 0 rfl) ?_
          refine lv_lload (pc := 169) hx hb d_fp_added_169 (lv_at hl 0 rfl) ?_
          refine lv_lmul (pc := 171) hx hb d_fp_added_171 ?_
          refine lv_aload_n (pc := 172) hx hb d_fp_added_172 rfl (lv_at hl 7 rfl) ?_
          refine va_get (pc := 173) (D := D) (ci := 0) (v := .long sq) (C := "TorsionDesk$Cubic") (T := tX0) (N := 5) hx hb hB lX0 hown hK hP 4 rfl rfl 0 (by decide) (hB _ zw_29) (fun _ h9 => h9) rfl d_fp_added_173 ?_
          refine lv_lsub (pc := 176) hx hb d_fp_added_176 ?_
          refine lv_lload (pc := 177) hx hb d_fp_added_177 (lv_at hl 5 rfl) ?_
          refine lv_lsub (pc := 179) hx hb d_fp_added_179 ?_
          refine lv_aload_n (pc := 180) hx hb d_fp_added_180 rfl (lv_at hl 6 rfl) ?_
          refine va_get (pc := 181) (D := D) (ci := 1) (v := .ref qx) (C := "TorsionDesk$FinitePoints") (T := tX1) (N := 4) hx hb hB lX1 hown hK hP 0 rfl rfl 0 (by decide) (hB _ zw_72) (fun _ h9 => h9) rfl d_fp_added_181 ?_
          refine lv_iload_n (pc := 184) hx hb d_fp_added_184 rfl (lv_at hl 9 rfl) ?_
          refine va_iald (pc := 185) hx hb hK hP 1 0 rfl rfl g6 d_fp_added_185 ?_
          refine lv_i2l (pc := 186) hx hb d_fp_added_186 rfl ?_
          refine lv_lsub (pc := 187) hx hb d_fp_added_187 ?_
          refine lv_lstore (pc := 188) (lv' := [(15, .long ((((((((ys i3.toNatClampNeg).toInt64) - ((ys i2.toNatClampNeg).toInt64)) / (((xs i3.toNatClampNeg).toInt64) - ((xs i2.toNatClampNeg).toInt64))) * ((((ys i3.toNatClampNeg).toInt64) - ((ys i2.toNatClampNeg).toInt64)) / (((xs i3.toNatClampNeg).toInt64) - ((xs i2.toNatClampNeg).toInt64)))) - sq) - ((xs i2.toNatClampNeg).toInt64)) - ((xs i3.toNatClampNeg).toInt64))), (13, .long ((((ys i3.toNatClampNeg).toInt64) - ((ys i2.toNatClampNeg).toInt64)) / (((xs i3.toNatClampNeg).toInt64) - ((xs i2.toNatClampNeg).toInt64)))), (11, .long (((xs i3.toNatClampNeg).toInt64) - ((xs i2.toNatClampNeg).toInt64))), (9, .long (((ys i3.toNatClampNeg).toInt64) - ((ys i2.toNatClampNeg).toInt64))), (8, .int (0 : Int32)), (6, .long ((ys i2.toNatClampNeg).toInt64)), (4, .long ((xs i2.toNatClampNeg).toInt64)), (0, .ref qf), (1, .ref qu), (2, .int i2), (3, .int i3)]) hx hb d_fp_added_188 hl (Nat.le_of_ble_eq_true rfl) rfl (fun ls hl => ?_)
          refine lv_aload_n (pc := 190) hx hb d_fp_added_190 rfl (lv_at hl 7 rfl) ?_
          refine lv_lload (pc := 191) hx hb d_fp_added_191 (lv_at hl 0 rfl) ?_
          refine lv_lload (pc := 193) hx hb d_fp_added_193 (lv_at hl 5 rfl) ?_
          refine lv_lload (pc := 195) hx hb d_fp_added_195 (lv_at hl 1 rfl) ?_
          refine lv_lload (pc := 197) hx hb d_fp_added_197 (lv_at hl 0 rfl) ?_
          refine lv_lload (pc := 199) hx hb d_fp_added_199 (lv_at hl 6 rfl) ?_
          refine lv_lsub (pc := 201) hx hb d_fp_added_201 ?_
          refine lv_lmul (pc := 202) hx hb d_fp_added_202 ?_
          refine lv_ladd (pc := 203) hx hb d_fp_added_203 ?_
          refine lv_lneg (pc := 204) hx hb d_fp_added_204 ?_
          obtain ⟨r_c205, c11, hm⟩ := zbind hm
          try dsimp only at hm
          refine zcV (pc := 205) (As := [.long ((((((((ys i3.toNatClampNeg).toInt64) - ((ys i2.toNatClampNeg).toInt64)) / (((xs i3.toNatClampNeg).toInt64) - ((xs i2.toNatClampNeg).toInt64))) * ((((ys i3.toNatClampNeg).toInt64) - ((ys i2.toNatClampNeg).toInt64)) / (((xs i3.toNatClampNeg).toInt64) - ((xs i2.toNatClampNeg).toInt64)))) - sq) - ((xs i2.toNatClampNeg).toInt64)) - ((xs i3.toNatClampNeg).toInt64)), .long (-(((ys i2.toNatClampNeg).toInt64) + (((((ys i3.toNatClampNeg).toInt64) - ((ys i2.toNatClampNeg).toInt64)) / (((xs i3.toNatClampNeg).toInt64) - ((xs i2.toNatClampNeg).toInt64))) * (((((((((ys i3.toNatClampNeg).toInt64) - ((ys i2.toNatClampNeg).toInt64)) / (((xs i3.toNatClampNeg).toInt64) - ((xs i2.toNatClampNeg).toInt64))) * ((((ys i3.toNatClampNeg).toInt64) - ((ys i2.toNatClampNeg).toInt64)) / (((xs i3.toNatClampNeg).toInt64) - ((xs i2.toNatClampNeg).toInt64)))) - sq) - ((xs i2.toNatClampNeg).toInt64)) - ((xs i3.toNatClampNeg).toInt64)) - ((xs i2.toNatClampNeg).toInt64)))))]) (rest := []) ⟨hx, hb, hml, hown, hB⟩ (w_a_fp_numberOf l D cI cJ qf qx qy qo fn xs ys os ((((((((ys i3.toNatClampNeg).toInt64) - ((ys i2.toNatClampNeg).toInt64)) / (((xs i3.toNatClampNeg).toInt64) - ((xs i2.toNatClampNeg).toInt64))) * ((((ys i3.toNatClampNeg).toInt64) - ((ys i2.toNatClampNeg).toInt64)) / (((xs i3.toNatClampNeg).toInt64) - ((xs i2.toNatClampNeg).toInt64)))) - sq) - ((xs i2.toNatClampNeg).toInt64)) - ((xs i3.toNatClampNeg).toInt64)) (-(((ys i2.toNatClampNeg).toInt64) + (((((ys i3.toNatClampNeg).toInt64) - ((ys i2.toNatClampNeg).toInt64)) / (((xs i3.toNatClampNeg).toInt64) - ((xs i2.toNatClampNeg).toInt64))) * (((((((((ys i3.toNatClampNeg).toInt64) - ((ys i2.toNatClampNeg).toInt64)) / (((xs i3.toNatClampNeg).toInt64) - ((xs i2.toNatClampNeg).toInt64))) * ((((ys i3.toNatClampNeg).toInt64) - ((ys i2.toNatClampNeg).toInt64)) / (((xs i3.toNatClampNeg).toInt64) - ((xs i2.toNatClampNeg).toInt64)))) - sq) - ((xs i2.toNatClampNeg).toInt64)) - ((xs i3.toNatClampNeg).toInt64)) - ((xs i2.toNatClampNeg).toInt64))))) N r_c205 c11) (cwV 2 hB (zgV zw_155 zw_136 zw_137 zw_4 zw_138) rfl rfl rfl (by decide +kernel) ⟨by rw [hR]; exact Nat.le_of_ble_eq_true rfl, by rw [hR]; exact Nat.le_of_ble_eq_true rfl⟩) hK (hP.sub (ws' := [(qf, .inr (1, [.ref qx, .ref qy, .ref qo, .int fn])), (qx, .inl (cI, 32, .inl xs)), (qy, .inl (cI, 32, .inl ys)), (qo, .inl (cI, 32, .inl os))]) [0, 1, 2, 3] rfl) (hD0.sub (ws' := [(qf, .inr (1, [.ref qx, .ref qy, .ref qo, .int fn])), (qx, .inl (cI, 32, .inl xs)), (qy, .inl (cI, 32, .inl ys)), (qo, .inl (cI, 32, .inl os))]) [0, 1, 2, 3] (by decide) rfl) rfl rfl rfl rfl hl.1 rfl (Nat.le_of_ble_eq_true rfl) d_fp_added_205 ⟨Nat.zero_le _, Nat.zero_le _⟩ ?_
          cases hm
          rw [hQ]
          exact W.iret (pc := 208) hx hb hr (fun t ht _ => ⟨rfl, ht⟩) (fun _ h9 => nomatch h9) d_fp_added_208
        rw [if_neg h10] at hm
        refine lv_iconst (pc := 158) (v := (-1 : Int32)) hx hb d_fp_added_158 (by decide) ?_
        cases hm
        rw [hQ]
        exact W.iret (pc := 159) hx hb hr (fun t ht _ => ⟨rfl, ht⟩) (fun _ h9 => nomatch h9) d_fp_added_159
      rw [if_pos h7] at hm
      refine lv_iconst (pc := 61) (v := (1 : Int32)) hx hb d_fp_added_61 (by decide) ?_
      refine lv_goto (pc := 62) (tgt := 66) hx hb d_fp_added_62 rfl ?_
      refine lv_istore (pc := 66) (lv' := [(8, .int (1 : Int32)), (6, .long ((ys i2.toNatClampNeg).toInt64)), (4, .long ((xs i2.toNatClampNeg).toInt64)), (0, .ref qf), (1, .ref qu), (2, .int i2), (3, .int i3)]) hx hb d_fp_added_66 hl (Nat.le_of_ble_eq_true rfl) rfl (fun ls hl => ?_)
      refine lv_iload (pc := 68) hx hb d_fp_added_68 (lv_at hl 0 rfl) ?_
      refine lv_if_eq (pc := 70) (tgt := 89) hx hb d_fp_added_70 rfl (fun h9 => absurd h9 (by decide)) (fun _ => ?_)
      refine lv_aload_n (pc := 73) hx hb d_fp_added_73 rfl (lv_at hl 3 rfl) ?_
      refine va_get (pc := 74) (D := D) (ci := 1) (v := .ref qy) (C := "TorsionDesk$FinitePoints") (T := tX1) (N := 4) hx hb hB lX1 hown hK hP 0 rfl rfl 1 (by decide) (hB _ zw_74) (fun _ h9 => h9) rfl d_fp_added_74 ?_
      refine lv_iload_n (pc := 77) hx hb d_fp_added_77 rfl (lv_at hl 6 rfl) ?_
      refine va_iald (pc := 78) hx hb hK hP 2 0 rfl rfl g6 d_fp_added_78 ?_
      refine lv_i2l (pc := 79) hx hb d_fp_added_79 rfl ?_
      refine lv_lload (pc := 80) hx hb d_fp_added_80 (lv_at hl 1 rfl) ?_
      refine lv_lneg (pc := 82) hx hb d_fp_added_82 ?_
      refine zl_ne (pc := 83) (tgt := 89) hx hb d_fp_added_83 d_fp_added_84 rfl (fun h12 => ?_) (fun h12 => ?_)
      · rw [if_neg h12] at hm
        refine lv_iload (pc := 89) hx hb d_fp_added_89 (lv_at hl 0 rfl) ?_
        refine lv_if_eq (pc := 91) (tgt := 103) hx hb d_fp_added_91 rfl (fun h9 => absurd h9 (by decide)) (fun _ => ?_)
        refine lv_aload_n (pc := 94) hx hb d_fp_added_94 rfl (lv_at hl 4 rfl) ?_
        refine lv_lload (pc := 95) hx hb d_fp_added_95 (lv_at hl 2 rfl) ?_
        refine zcV (pc := 97) (As := [.long ((xs i2.toNatClampNeg).toInt64)]) (rest := []) ⟨hx, hb, hml, hown, hB⟩ (w_a_cu_steepnessAt l D cI cJ qu qr sq li co di rc ((xs i2.toNatClampNeg).toInt64) _ rfl) (cwV 1 hB (zgV zw_148 zw_149 zw_150 zw_2 zw_151) rfl rfl rfl (by decide +kernel) ⟨by rw [hR]; exact Nat.le_of_ble_eq_true rfl, by rw [hR]; exact Nat.le_of_ble_eq_true rfl⟩) hK (hP.sub (ws' := [(qu, .inr (0, [.long sq, .long li, .long co, .long di, .ref qr])), (qr, .inl (cI, 97, .inl rc))]) [4, 5] rfl) (hD0.sub (ws' := [(qu, .inr (0, [.long sq, .long li, .long co, .long di, .ref qr])), (qr, .inl (cI, 97, .inl rc))]) [4, 5] (by decide) rfl) rfl rfl rfl rfl hl.1 rfl (Nat.le_of_ble_eq_true rfl) d_fp_added_97 ⟨Nat.zero_le _, Nat.zero_le _⟩ ?_
        refine lv_goto (pc := 100) (tgt := 113) hx hb d_fp_added_100 rfl ?_
        refine lv_lstore (pc := 113) (lv' := [(9, .long (a_cu_steepnessAt sq li ((xs i2.toNatClampNeg).toInt64))), (8, .int (1 : Int32)), (6, .long ((ys i2.toNatClampNeg).toInt64)), (4, .long ((xs i2.toNatClampNeg).toInt64)), (0, .ref qf), (1, .ref qu), (2, .int i2), (3, .int i3)]) hx hb d_fp_added_113 hl (Nat.le_of_ble_eq_true rfl) rfl (fun ls hl => ?_)
        refine lv_iload (pc := 115) hx hb d_fp_added_115 (lv_at hl 1 rfl) ?_
        refine lv_if_eq (pc := 117) (tgt := 129) hx hb d_fp_added_117 rfl (fun h9 => absurd h9 (by decide)) (fun _ => ?_)
        refine lv_ldc2 (pc := 120) (v := (2 : Int64)) hx hb hown (hB _ zw_154) d_fp_added_120 ?_
        refine lv_lload (pc := 123) hx hb d_fp_added_123 (lv_at hl 2 rfl) ?_
        refine lv_lmul (pc := 125) hx hb d_fp_added_125 ?_
        refine lv_goto (pc := 126) (tgt := 139) hx hb d_fp_added_126 rfl ?_
        refine lv_lstore (pc := 139) (lv' := [(11, .long ((2 : Int64) * ((ys i2.toNatClampNeg).toInt64))), (9, .long (a_cu_steepnessAt sq li ((xs i2.toNatClampNeg).toInt64))), (8, .int (1 : Int32)), (6, .long ((ys i2.toNatClampNeg).toInt64)), (4, .long ((xs i2.toNatClampNeg).toInt64)), (0, .ref qf), (1, .ref qu), (2, .int i2), (3, .int i3)]) hx hb d_fp_added_139 hl (Nat.le_of_ble_eq_true rfl) rfl (fun ls hl => ?_)
        refine lv_lload (pc := 141) hx hb d_fp_added_141 (lv_at hl 0 rfl) ?_
        refine lv_lconst (pc := 143) (v := (0 : Int64)) hx hb d_fp_added_143 (by decide) ?_
        refine zl_eq (pc := 144) (tgt := 158) hx hb d_fp_added_144 d_fp_added_145 rfl (fun h13 => ?_) (fun h13 => ?_)
        · rw [if_pos h13] at hm
          refine lv_iconst (pc := 158) (v := (-1 : Int32)) hx hb d_fp_added_158 (by decide) ?_
          cases hm
          rw [hQ]
          exact W.iret (pc := 159) hx hb hr (fun t ht _ => ⟨rfl, ht⟩) (fun _ h9 => nomatch h9) d_fp_added_159
        rw [if_neg h13] at hm
        refine lv_lload (pc := 148) hx hb d_fp_added_148 (lv_at hl 1 rfl) ?_
        refine lv_lload (pc := 150) hx hb d_fp_added_150 (lv_at hl 0 rfl) ?_
        by_cases g14 : ((2 : Int64) * ((ys i2.toNatClampNeg).toInt64)) = 0
        · rw [if_pos g14] at hm; cases hm
        rw [if_neg g14] at hm
        refine lv_lrem (pc := 152) hx hb d_fp_added_152 g14 ?_
        refine lv_lconst (pc := 153) (v := (0 : Int64)) hx hb d_fp_added_153 (by decide) ?_
        refine zl_eq (pc := 154) (tgt := 160) hx hb d_fp_added_154 d_fp_added_155 rfl (fun h15 => ?_) (fun h15 => ?_)
        · rw [if_pos h15] at hm
          refine lv_lload (pc := 160) hx hb d_fp_added_160 (lv_at hl 1 rfl) ?_
          refine lv_lload (pc := 162) hx hb d_fp_added_162 (lv_at hl 0 rfl) ?_
          refine lv_ldiv (pc := 164) hx hb d_fp_added_164 g14 ?_
          refine lv_lstore (pc := 165) (lv' := [(13, .long ((a_cu_steepnessAt sq li ((xs i2.toNatClampNeg).toInt64)) / ((2 : Int64) * ((ys i2.toNatClampNeg).toInt64)))), (11, .long ((2 : Int64) * ((ys i2.toNatClampNeg).toInt64))), (9, .long (a_cu_steepnessAt sq li ((xs i2.toNatClampNeg).toInt64))), (8, .int (1 : Int32)), (6, .long ((ys i2.toNatClampNeg).toInt64)), (4, .long ((xs i2.toNatClampNeg).toInt64)), (0, .ref qf), (1, .ref qu), (2, .int i2), (3, .int i3)]) hx hb d_fp_added_165 hl (Nat.le_of_ble_eq_true rfl) rfl (fun ls hl => ?_)
          refine lv_lload (pc := 167) hx hb d_fp_added_167 (lv_at hl 0 rfl) ?_
          refine lv_lload (pc := 169) hx hb d_fp_added_169 (lv_at hl 0 rfl) ?_
          refine lv_lmul (pc := 171) hx hb d_fp_added_171 ?_
          refine lv_aload_n (pc := 172) hx hb d_fp_added_172 rfl (lv_at hl 7 rfl) ?_
          refine va_get (pc := 173) (D := D) (ci := 0) (v := .long sq) (C := "TorsionDesk$Cubic") (T := tX0) (N := 5) hx hb hB lX0 hown hK hP 4 rfl rfl 0 (by decide) (hB _ zw_29) (fun _ h9 => h9) rfl d_fp_added_173 ?_
          refine lv_lsub (pc := 176) hx hb d_fp_added_176 ?_
          refine lv_lload (pc := 177) hx hb d_fp_added_177 (lv_at hl 5 rfl) ?_
          refine lv_lsub (pc := 179) hx hb d_fp_added_179 ?_
          refine lv_aload_n (pc := 180) hx hb d_fp_added_180 rfl (lv_at hl 6 rfl) ?_
          refine va_get (pc := 181) (D := D) (ci := 1) (v := .ref qx) (C := "TorsionDesk$FinitePoints") (T := tX1) (N := 4) hx hb hB lX1 hown hK hP 0 rfl rfl 0 (by decide) (hB _ zw_72) (fun _ h9 => h9) rfl d_fp_added_181 ?_
          refine lv_iload_n (pc := 184) hx hb d_fp_added_184 rfl (lv_at hl 9 rfl) ?_
          refine va_iald (pc := 185) hx hb hK hP 1 0 rfl rfl g6 d_fp_added_185 ?_
          refine lv_i2l (pc := 186) hx hb d_fp_added_186 rfl ?_
          refine lv_lsub (pc := 187) hx hb d_fp_added_187 ?_
          refine lv_lstore (pc := 188) (lv' := [(15, .long ((((((a_cu_steepnessAt sq li ((xs i2.toNatClampNeg).toInt64)) / ((2 : Int64) * ((ys i2.toNatClampNeg).toInt64))) * ((a_cu_steepnessAt sq li ((xs i2.toNatClampNeg).toInt64)) / ((2 : Int64) * ((ys i2.toNatClampNeg).toInt64)))) - sq) - ((xs i2.toNatClampNeg).toInt64)) - ((xs i3.toNatClampNeg).toInt64))), (13, .long ((a_cu_steepnessAt sq li ((xs i2.toNatClampNeg).toInt64)) / ((2 : Int64) * ((ys i2.toNatClampNeg).toInt64)))), (11, .long ((2 : Int64) * ((ys i2.toNatClampNeg).toInt64))), (9, .long (a_cu_steepnessAt sq li ((xs i2.toNatClampNeg).toInt64))), (8, .int (1 : Int32)), (6, .long ((ys i2.toNatClampNeg).toInt64)), (4, .long ((xs i2.toNatClampNeg).toInt64)), (0, .ref qf), (1, .ref qu), (2, .int i2), (3, .int i3)]) hx hb d_fp_added_188 hl (Nat.le_of_ble_eq_true rfl) rfl (fun ls hl => ?_)
          refine lv_aload_n (pc := 190) hx hb d_fp_added_190 rfl (lv_at hl 7 rfl) ?_
          refine lv_lload (pc := 191) hx hb d_fp_added_191 (lv_at hl 0 rfl) ?_
          refine lv_lload (pc := 193) hx hb d_fp_added_193 (lv_at hl 5 rfl) ?_
          refine lv_lload (pc := 195) hx hb d_fp_added_195 (lv_at hl 1 rfl) ?_
          refine lv_lload (pc := 197) hx hb d_fp_added_197 (lv_at hl 0 rfl) ?_
          refine lv_lload (pc := 199) hx hb d_fp_added_199 (lv_at hl 6 rfl) ?_
          refine lv_lsub (pc := 201) hx hb d_fp_added_201 ?_
          refine lv_lmul (pc := 202) hx hb d_fp_added_202 ?_
          refine lv_ladd (pc := 203) hx hb d_fp_added_203 ?_
          refine lv_lneg (pc := 204) hx hb d_fp_added_204 ?_
          obtain ⟨r_c205, c16, hm⟩ := zbind hm
          try dsimp only at hm
          refine zcV (pc := 205) (As := [.long ((((((a_cu_steepnessAt sq li ((xs i2.toNatClampNeg).toInt64)) / ((2 : Int64) * ((ys i2.toNatClampNeg).toInt64))) * ((a_cu_steepnessAt sq li ((xs i2.toNatClampNeg).toInt64)) / ((2 : Int64) * ((ys i2.toNatClampNeg).toInt64)))) - sq) - ((xs i2.toNatClampNeg).toInt64)) - ((xs i3.toNatClampNeg).toInt64)), .long (-(((ys i2.toNatClampNeg).toInt64) + (((a_cu_steepnessAt sq li ((xs i2.toNatClampNeg).toInt64)) / ((2 : Int64) * ((ys i2.toNatClampNeg).toInt64))) * (((((((a_cu_steepnessAt sq li ((xs i2.toNatClampNeg).toInt64)) / ((2 : Int64) * ((ys i2.toNatClampNeg).toInt64))) * ((a_cu_steepnessAt sq li ((xs i2.toNatClampNeg).toInt64)) / ((2 : Int64) * ((ys i2.toNatClampNeg).toInt64)))) - sq) - ((xs i2.toNatClampNeg).toInt64)) - ((xs i3.toNatClampNeg).toInt64)) - ((xs i2.toNatClampNeg).toInt64)))))]) (rest := []) ⟨hx, hb, hml, hown, hB⟩ (w_a_fp_numberOf l D cI cJ qf qx qy qo fn xs ys os ((((((a_cu_steepnessAt sq li ((xs i2.toNatClampNeg).toInt64)) / ((2 : Int64) * ((ys i2.toNatClampNeg).toInt64))) * ((a_cu_steepnessAt sq li ((xs i2.toNatClampNeg).toInt64)) / ((2 : Int64) * ((ys i2.toNatClampNeg).toInt64)))) - sq) - ((xs i2.toNatClampNeg).toInt64)) - ((xs i3.toNatClampNeg).toInt64)) (-(((ys i2.toNatClampNeg).toInt64) + (((a_cu_steepnessAt sq li ((xs i2.toNatClampNeg).toInt64)) / ((2 : Int64) * ((ys i2.toNatClampNeg).toInt64))) * (((((((a_cu_steepnessAt sq li ((xs i2.toNatClampNeg).toInt64)) / ((2 : Int64) * ((ys i2.toNatClampNeg).toInt64))) * ((a_cu_steepnessAt sq li ((xs i2.toNatClampNeg).toInt64)) / ((2 : Int64) * ((ys i2.toNatClampNeg).toInt64)))) - sq) - ((xs i2.toNatClampNeg).toInt64)) - ((xs i3.toNatClampNeg).toInt64)) - ((xs i2.toNatClampNeg).toInt64))))) N r_c205 c16) (cwV 2 hB (zgV zw_155 zw_136 zw_137 zw_4 zw_138) rfl rfl rfl (by decide +kernel) ⟨by rw [hR]; exact Nat.le_of_ble_eq_true rfl, by rw [hR]; exact Nat.le_of_ble_eq_true rfl⟩) hK (hP.sub (ws' := [(qf, .inr (1, [.ref qx, .ref qy, .ref qo, .int fn])), (qx, .inl (cI, 32, .inl xs)), (qy, .inl (cI, 32, .inl ys)), (qo, .inl (cI, 32, .inl os))]) [0, 1, 2, 3] rfl) (hD0.sub (ws' := [(qf, .inr (1, [.ref qx, .ref qy, .ref qo, .int fn])), (qx, .inl (cI, 32, .inl xs)), (qy, .inl (cI, 32, .inl ys)), (qo, .inl (cI, 32, .inl os))]) [0, 1, 2, 3] (by decide) rfl) rfl rfl rfl rfl hl.1 rfl (Nat.le_of_ble_eq_true rfl) d_fp_added_205 ⟨Nat.zero_le _, Nat.zero_le _⟩ ?_
          cases hm
          rw [hQ]
          exact W.iret (pc := 208) hx hb hr (fun t ht _ => ⟨rfl, ht⟩) (fun _ h9 => nomatch h9) d_fp_added_208
        rw [if_neg h15] at hm
        refine lv_iconst (pc := 158) (v := (-1 : Int32)) hx hb d_fp_added_158 (by decide) ?_
        cases hm
        rw [hQ]
        exact W.iret (pc := 159) hx hb hr (fun t ht _ => ⟨rfl, ht⟩) (fun _ h9 => nomatch h9) d_fp_added_159
      rw [if_pos h12] at hm
      refine lv_iconst (pc := 87) (v := (0 : Int32)) hx hb d_fp_added_87 (by decide) ?_
      cases hm
      rw [hQ]
      exact W.iret (pc := 88) hx hb hr (fun t ht _ => ⟨rfl, ht⟩) (fun _ h9 => nomatch h9) d_fp_added_88
    rw [if_pos h4] at hm
    refine lv_iload_n (pc := 26) hx hb d_fp_added_26 rfl (lv_at hl 2 rfl) ?_
    refine lv_iload_n (pc := 27) hx hb d_fp_added_27 rfl (lv_at hl 3 rfl) ?_
    refine lv_iadd (pc := 28) hx hb d_fp_added_28 ?_
    cases hm
    rw [hQ]
    exact W.iret (pc := 29) hx hb hr (fun t ht _ => ⟨rfl, ht⟩) (fun _ h9 => nomatch h9) d_fp_added_29
  rw [if_pos h2] at hm
  refine lv_iconst (pc := 16) (v := (-1 : Int32)) hx hb d_fp_added_16 (by decide) ?_
  cases hm
  rw [hQ]
  exact W.iret (pc := 17) hx hb hr (fun t ht _ => ⟨rfl, ht⟩) (fun _ h9 => nomatch h9) d_fp_added_17
abbrev rm_fp_append : Room := { frames := 0, cells := 0, slots := 0, locals := 0 }
def a_fp_append (fn : Int32) (xs : Nat → Int32) (ys : Nat → Int32) (i1 : Int32) (i2 : Int32) : Option ((Nat → Int32) × (Nat → Int32) × Int32) := (if (32 : Int32) ≤ fn then (some (xs, ys, fn)) else (if (fn < 0 ∨ 32 ≤ fn.toNatClampNeg) then none else (some (upd xs fn.toNatClampNeg i1, upd ys fn.toNatClampNeg i2, fn + (1 : Int32)))))
set_option maxHeartbeats 4000000 in
set_option maxRecDepth 100000 in
theorem w_a_fp_append (l : Launch) (D : va_G) (cI cJ : ClassId) (qf : Nat) (qx : Nat) (qy : Nat) (qo : Nat) (fn : Int32) (xs : Nat → Int32) (ys : Nat → Int32) (os : Nat → Int32) (i1 : Int32) (i2 : Int32) (r0 : Nat → Int32) (r1 : Nat → Int32) (r2 : Int32) (hm : a_fp_append fn xs ys i1 i2 = some (r0, r1, r2)) : Met l y_fp_append zs_fp_append rm_fp_append (zPc [.ref qf, .int i1, .int i2] D [(qf, .inr (1, [.ref qx, .ref qy, .ref qo, .int fn])), (qx, .inl (cI, 32, .inl xs)), (qy, .inl (cI, 32, .inl ys)), (qo, .inl (cI, 32, .inl os))] [(cI, .int), (cJ, .long)]) (zWr none D (zIn [(qf, .inr (1, [.ref qx, .ref qy, .ref qo, .int fn])), (qx, .inl (cI, 32, .inl xs)), (qy, .inl (cI, 32, .inl ys)), (qo, .inl (cI, 32, .inl os))]) [(qf, .inr (1, [.ref qx, .ref qy, .ref qo, .int r2])), (qx, .inl (cI, 32, .inl r0)), (qy, .inl (cI, 32, .inl r1)), (qo, .inl (cI, 32, .inl os))]) 0 0 (zIn [(qf, .inr (1, [.ref qx, .ref qy, .ref qo, .int fn])), (qx, .inl (cI, 32, .inl xs)), (qy, .inl (cI, 32, .inl ys)), (qo, .inl (cI, 32, .inl os))]) := by
  refine zm (by decide) (Nat.le_of_ble_eq_true rfl) ?_
  intro p e s m args below meth c R Q hR hQ hargs hx hb hml hr hlocks hnm hB hown hP hK hD0 ls hl
  have hown : s.vm.findClass "TorsionDesk$FinitePoints" = some m.cls := hown
  have hl : lv_has ls 3 [(0, .ref qf), (1, .int i1), (2, .int i2)] := hl
  obtain ⟨A, hA⟩ : ∃ A, A = zIn [(qf, .inr (1, [.ref qx, .ref qy, .ref qo, .int fn])), (qx, .inl (cI, 32, .inl xs)), (qy, .inl (cI, 32, .inl ys)), (qo, .inl (cI, 32, .inl os))] := ⟨_, rfl⟩
  have hD : va_D A [(qf, .inr (1, [.ref qx, .ref qy, .ref qo, .int fn])), (qx, .inl (cI, 32, .inl xs)), (qy, .inl (cI, 32, .inl ys)), (qo, .inl (cI, 32, .inl os))] := by rw [hA]; exact zIn_self hD0
  have hS : va_S A s.heap s.heap [] := va_S.rf
  rw [← hA] at hQ
  rw [a_fp_append] at hm
  refine lv_aload_n (pc := 0) hx hb d_fp_append_0 rfl (lv_at hl 0 rfl) ?_
  refine va_get (pc := 1) (D := D) (ci := 1) (v := .int fn) (C := "TorsionDesk$FinitePoints") (T := tX1) (N := 4) hx hb hB lX1 hown hK hP 0 rfl rfl 3 (by decide) (hB _ zw_78) (fun _ h9 => h9) rfl d_fp_append_1 ?_
  refine lv_bipush (pc := 4) (v := (32 : Int32)) hx hb d_fp_append_4 (by decide) ?_
  refine lv_icmp_ge (pc := 6) (tgt := 39) hx hb d_fp_append_6 rfl (fun h1 => ?_) (fun h1 => ?_)
  · rw [if_pos h1] at hm
    cases hm
    rw [hQ]
    exact W.vret (pc := 39) hx hb hr (fun t ht _ => ⟨rfl, by rw [ht]; exact hP, hS.F ht⟩) hS.2.2 d_fp_append_39
  rw [if_neg h1] at hm
  refine lv_aload_n (pc := 9) hx hb d_fp_append_9 rfl (lv_at hl 0 rfl) ?_
  refine va_get (pc := 10) (D := D) (ci := 1) (v := .ref qx) (C := "TorsionDesk$FinitePoints") (T := tX1) (N := 4) hx hb hB lX1 hown hK hP 0 rfl rfl 0 (by decide) (hB _ zw_72) (fun _ h9 => h9) rfl d_fp_append_10 ?_
  refine lv_aload_n (pc := 13) hx hb d_fp_append_13 rfl (lv_at hl 0 rfl) ?_
  refine va_get (pc := 14) (D := D) (ci := 1) (v := .int fn) (C := "TorsionDesk$FinitePoints") (T := tX1) (N := 4) hx hb hB lX1 hown hK hP 0 rfl rfl 3 (by decide) (hB _ zw_78) (fun _ h9 => h9) rfl d_fp_append_14 ?_
  refine lv_iload_n (pc := 17) hx hb d_fp_append_17 rfl (lv_at hl 1 rfl) ?_
  by_cases g2 : (fn < 0 ∨ 32 ≤ fn.toNatClampNeg)
  · rw [if_pos g2] at hm; cases hm
  rw [if_neg g2] at hm
  refine va_iast (pc := 18) hx hb hK hP hD hS 1 0 rfl rfl g2 d_fp_append_18 (fun H locs hP hD hS => ?_)
  have hP : va_P D vwCl [(qf, .inr (1, [.ref qx, .ref qy, .ref qo, .int fn])), (qx, .inl (cI, 32, .inl (upd xs fn.toNatClampNeg i1))), (qy, .inl (cI, 32, .inl ys)), (qo, .inl (cI, 32, .inl os))] H := hP
  have hD : va_D A [(qf, .inr (1, [.ref qx, .ref qy, .ref qo, .int fn])), (qx, .inl (cI, 32, .inl (upd xs fn.toNatClampNeg i1))), (qy, .inl (cI, 32, .inl ys)), (qo, .inl (cI, 32, .inl os))] := hD
  refine lv_aload_n (pc := 19) hx hb d_fp_append_19 rfl (lv_at hl 0 rfl) ?_
  refine va_get (pc := 20) (D := D) (ci := 1) (v := .ref qy) (C := "TorsionDesk$FinitePoints") (T := tX1) (N := 4) hx hb hB lX1 hown hK hP 0 rfl rfl 1 (by decide) (hB _ zw_74) (fun _ h9 => h9) rfl d_fp_append_20 ?_
  refine lv_aload_n (pc := 23) hx hb d_fp_append_23 rfl (lv_at hl 0 rfl) ?_
  refine va_get (pc := 24) (D := D) (ci := 1) (v := .int fn) (C := "TorsionDesk$FinitePoints") (T := tX1) (N := 4) hx hb hB lX1 hown hK hP 0 rfl rfl 3 (by decide) (hB _ zw_78) (fun _ h9 => h9) rfl d_fp_append_24 ?_
  refine lv_iload_n (pc := 27) hx hb d_fp_append_27 rfl (lv_at hl 2 rfl) ?_
  refine va_iast (pc := 28) hx hb hK hP hD hS 2 0 rfl rfl g2 d_fp_append_28 (fun H locs hP hD hS => ?_)
  have hP : va_P D vwCl [(qf, .inr (1, [.ref qx, .ref qy, .ref qo, .int fn])), (qx, .inl (cI, 32, .inl (upd xs fn.toNatClampNeg i1))), (qy, .inl (cI, 32, .inl (upd ys fn.toNatClampNeg i2))), (qo, .inl (cI, 32, .inl os))] H := hP
  have hD : va_D A [(qf, .inr (1, [.ref qx, .ref qy, .ref qo, .int fn])), (qx, .inl (cI, 32, .inl (upd xs fn.toNatClampNeg i1))), (qy, .inl (cI, 32, .inl (upd ys fn.toNatClampNeg i2))), (qo, .inl (cI, 32, .inl os))] := hD
  refine lv_aload_n (pc := 29) hx hb d_fp_append_29 rfl (lv_at hl 0 rfl) ?_
  refine lv_dup (pc := 30) hx hb d_fp_append_30 rfl ?_
  refine va_get (pc := 31) (D := D) (ci := 1) (v := .int fn) (C := "TorsionDesk$FinitePoints") (T := tX1) (N := 4) hx hb hB lX1 hown hK hP 0 rfl rfl 3 (by decide) (hB _ zw_78) (fun _ h9 => h9) rfl d_fp_append_31 ?_
  refine lv_iconst (pc := 34) (v := (1 : Int32)) hx hb d_fp_append_34 (by decide) ?_
  refine lv_iadd (pc := 35) hx hb d_fp_append_35 ?_
  refine va_put (pc := 36) (D := D) (ci := 1) (v := .int (fn + (1 : Int32))) (ty := .int) (C := "TorsionDesk$FinitePoints") (T := tX1) (N := 4) hx hb hB lX1 yX1 yX1_ok nX1 hown hK hP hD hS 0 rfl rfl 3 (by decide) (hB _ zw_78) (fun _ h9 => h9) rfl (by decide +kernel) rfl rfl (Nat.le_of_ble_eq_true rfl) d_fp_append_36 (fun H locs hP hD hS => ?_)
  have hP : va_P D vwCl [(qf, .inr (1, [.ref qx, .ref qy, .ref qo, .int (fn + (1 : Int32))])), (qx, .inl (cI, 32, .inl (upd xs fn.toNatClampNeg i1))), (qy, .inl (cI, 32, .inl (upd ys fn.toNatClampNeg i2))), (qo, .inl (cI, 32, .inl os))] H := hP
  have hD : va_D A [(qf, .inr (1, [.ref qx, .ref qy, .ref qo, .int (fn + (1 : Int32))])), (qx, .inl (cI, 32, .inl (upd xs fn.toNatClampNeg i1))), (qy, .inl (cI, 32, .inl (upd ys fn.toNatClampNeg i2))), (qo, .inl (cI, 32, .inl os))] := hD
  cases hm
  rw [hQ]
  exact W.vret (pc := 39) hx hb hr (fun t ht _ => ⟨rfl, by rw [ht]; exact hP, hS.F ht⟩) hS.2.2 d_fp_append_39
abbrev rm_fp_orderOf : Room := { frames := 2, cells := 0, slots := 0, locals := 61 }
def a_fp_orderOf_L5 (fn : Int32) (xs : Nat → Int32) (ys : Nat → Int32) (sq : Int64) (li : Int64) (i2 : Int32) : Nat → Int32 → Int32 → Option (Int32)
  | 0, _, _ => none
  | n + 1, x3_5, x4_5 => (if (12 : Int32) < x4_5 then (some (-1 : Int32)) else (if x3_5 = 0 then (some x4_5) else ((a_fp_added n fn xs ys sq li x3_5 i2).bind (fun r_c23 => a_fp_orderOf_L5 fn xs ys sq li i2 n r_c23 (x4_5 + (1 : Int32))))))
def a_fp_orderOf (N : Nat) (fn : Int32) (xs : Nat → Int32) (ys : Nat → Int32) (sq : Int64) (li : Int64) (i2 : Int32) : Option (Int32) := a_fp_orderOf_L5 fn xs ys sq li i2 N i2 (1 : Int32)
set_option maxHeartbeats 4000000 in
set_option maxRecDepth 100000 in
theorem w_a_fp_orderOf (l : Launch) (D : va_G) (cI cJ : ClassId) (qf : Nat) (qx : Nat) (qy : Nat) (qo : Nat) (fn : Int32) (xs : Nat → Int32) (ys : Nat → Int32) (os : Nat → Int32) (qu : Nat) (qr : Nat) (sq : Int64) (li : Int64) (co : Int64) (di : Int64) (rc : Nat → Int32) (i2 : Int32) (N : Nat) (r0 : Int32) (hm : a_fp_orderOf N fn xs ys sq li i2 = some r0) : Met l y_fp_orderOf zs_fp_orderOf rm_fp_orderOf (zPc [.ref qf, .ref qu, .int i2] D [(qf, .inr (1, [.ref qx, .ref qy, .ref qo, .int fn])), (qx, .inl (cI, 32, .inl xs)), (qy, .inl (cI, 32, .inl ys)), (qo, .inl (cI, 32, .inl os)), (qu, .inr (0, [.long sq, .long li, .long co, .long di, .ref qr])), (qr, .inl (cI, 97, .inl rc))] [(cI, .int), (cJ, .long)]) (zRd (some (.int r0))) 0 0 (fun _ => False) := by
  refine zm (by decide) (Nat.le_of_ble_eq_true rfl) ?_
  intro p e s m args below meth c R Q hR hQ hargs hx hb hml hr hlocks hnm hB hown hP hK hD0 ls hl
  have hown : s.vm.findClass "TorsionDesk$FinitePoints" = some m.cls := hown
  have hl : lv_has ls 5 [(0, .ref qf), (1, .ref qu), (2, .int i2)] := hl
  have k5 : ∀ (n : Nat) (x3_5 : Int32) (x4_5 : Int32) (ls : Array Slot), lv_has ls 5 [(0, .ref qf), (1, .ref qu), (2, .int i2), (3, .int x3_5), (4, .int x4_5)] → a_fp_orderOf_L5 fn xs ys sq li i2 n x3_5 x4_5 = some r0 → W p l e R s m args below meth c s.heap [] 0 0 Q (F0 m 5 ls []) := by
    intro n
    induction n with
    | zero => intro x3_5 x4_5  ls hl hm; rw [a_fp_orderOf_L5] at hm; cases hm
    | succ n ih =>
      intro x3_5 x4_5  ls hl hm
      rw [a_fp_orderOf_L5] at hm
      refine lv_iload (pc := 5) hx hb d_fp_orderOf_5 (lv_at hl 4 rfl) ?_
      refine lv_bipush (pc := 7) (v := (12 : Int32)) hx hb d_fp_orderOf_7 (by decide) ?_
      refine lv_icmp_gt (pc := 9) (tgt := 33) hx hb d_fp_orderOf_9 rfl (fun h1 => ?_) (fun h1 => ?_)
      · rw [if_pos h1] at hm
        refine lv_iconst (pc := 33) (v := (-1 : Int32)) hx hb d_fp_orderOf_33 (by decide) ?_
        cases hm
        rw [hQ]
        exact W.iret (pc := 34) hx hb hr (fun t ht _ => ⟨rfl, ht⟩) (fun _ h9 => nomatch h9) d_fp_orderOf_34
      rw [if_neg h1] at hm
      refine lv_iload_n (pc := 12) hx hb d_fp_orderOf_12 rfl (lv_at hl 3 rfl) ?_
      refine lv_if_ne (pc := 13) (tgt := 19) hx hb d_fp_orderOf_13 rfl (fun h2 => ?_) (fun h2 => ?_)
      · rw [if_neg h2] at hm
        refine lv_aload_n (pc := 19) hx hb d_fp_orderOf_19 rfl (lv_at hl 0 rfl) ?_
        refine lv_aload_n (pc := 20) hx hb d_fp_orderOf_20 rfl (lv_at hl 1 rfl) ?_
        refine lv_iload_n (pc := 21) hx hb d_fp_orderOf_21 rfl (lv_at hl 3 rfl) ?_
        refine lv_iload_n (pc := 22) hx hb d_fp_orderOf_22 rfl (lv_at hl 2 rfl) ?_
        obtain ⟨r_c23, c3, hm⟩ := zbind hm
        try dsimp only at hm
        refine zcV (pc := 23) (As := [.ref qu, .int x3_5, .int i2]) (rest := []) ⟨hx, hb, hml, hown, hB⟩ (w_a_fp_added l D cI cJ qf qx qy qo fn xs ys os qu qr sq li co di rc x3_5 i2 n r_c23 c3) (cwV 3 hB (zgV zw_167 zw_144 zw_145 zw_4 zw_146) rfl rfl rfl (by decide +kernel) ⟨by rw [hR]; exact Nat.le_of_ble_eq_true rfl, by rw [hR]; exact Nat.le_of_ble_eq_true rfl⟩) hK (hP.sub (ws' := [(qf, .inr (1, [.ref qx, .ref qy, .ref qo, .int fn])), (qx, .inl (cI, 32, .inl xs)), (qy, .inl (cI, 32, .inl ys)), (qo, .inl (cI, 32, .inl os)), (qu, .inr (0, [.long sq, .long li, .long co, .long di, .ref qr])), (qr, .inl (cI, 97, .inl rc))]) [0, 1, 2, 3, 4, 5] rfl) (hD0.sub (ws' := [(qf, .inr (1, [.ref qx, .ref qy, .ref qo, .int fn])), (qx, .inl (cI, 32, .inl xs)), (qy, .inl (cI, 32, .inl ys)), (qo, .inl (cI, 32, .inl os)), (qu, .inr (0, [.long sq, .long li, .long co, .long di, .ref qr])), (qr, .inl (cI, 97, .inl rc))]) [0, 1, 2, 3, 4, 5] (by decide) rfl) rfl rfl rfl rfl hl.1 rfl (Nat.le_of_ble_eq_true rfl) d_fp_orderOf_23 ⟨Nat.zero_le _, Nat.zero_le _⟩ ?_
        refine lv_istore_n (pc := 26) (lv' := [(3, .int r_c23), (0, .ref qf), (1, .ref qu), (2, .int i2), (4, .int x4_5)]) hx hb d_fp_orderOf_26 rfl hl (Nat.le_of_ble_eq_true rfl) rfl (fun ls hl => ?_)
        refine lv_iinc (pc := 27) (k := 4) (v := x4_5 + (1 : Int32)) (lv' := [(4, .int (x4_5 + (1 : Int32))), (3, .int r_c23), (0, .ref qf), (1, .ref qu), (2, .int i2)]) hx hb d_fp_orderOf_27 hl rfl (congrArg (x4_5 + ·) (by decide)) (Nat.le_of_ble_eq_true rfl) rfl (fun ls hl => ?_)
        refine lv_goto (pc := 30) (tgt := 5) hx hb d_fp_orderOf_30 rfl ?_
        exact ih r_c23 (x4_5 + (1 : Int32)) ls (lv_sub hl [2, 3, 4, 1, 0] rfl) hm
      rw [if_pos h2] at hm
      refine lv_iload (pc := 16) hx hb d_fp_orderOf_16 (lv_at hl 4 rfl) ?_
      cases hm
      rw [hQ]
      exact W.iret (pc := 18) hx hb hr (fun t ht _ => ⟨rfl, ht⟩) (fun _ h9 => nomatch h9) d_fp_orderOf_18
  rw [a_fp_orderOf] at hm
  refine lv_iload_n (pc := 0) hx hb d_fp_orderOf_0 rfl (lv_at hl 2 rfl) ?_
  refine lv_istore_n (pc := 1) (lv' := [(3, .int i2), (0, .ref qf), (1, .ref qu), (2, .int i2)]) hx hb d_fp_orderOf_1 rfl hl (Nat.le_of_ble_eq_true rfl) rfl (fun ls hl => ?_)
  refine lv_iconst (pc := 2) (v := (1 : Int32)) hx hb d_fp_orderOf_2 (by decide) ?_
  refine lv_istore (pc := 3) (lv' := [(4, .int (1 : Int32)), (3, .int i2), (0, .ref qf), (1, .ref qu), (2, .int i2)]) hx hb d_fp_orderOf_3 hl (Nat.le_of_ble_eq_true rfl) rfl (fun ls hl => ?_)
  exact k5 N i2 (1 : Int32) ls (lv_sub hl [2, 3, 4, 1, 0] rfl) hm
end
