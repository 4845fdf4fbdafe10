-- ===== PART A: goes FIRST, ahead of the names: the tables' words, and 'selects' of the private methods out of them =====
/-- a private method of a class that the tables say can be made, by its rows of tables_1 -/
def lw_okq (q : MethodName × Nat) : Prop := (q.1.cls ≠ "java/lang/invoke/MethodHandle" ∧ q.1.cls ≠ "java/lang/invoke/VarHandle") ∧ Cond.instantiable q.1.cls q.2 ∈ tables_1 ∧ Cond.privateMethod q.1 ∈ tables_1 ∧ Cond.instanceMethod q.1 ∈ tables_1
theorem lw_p0 : lw_okq (⟨"TorsionDesk$FinitePoints", "meetsOnlyInZero", "(LTorsionDesk$Cubic;II)Z"⟩, 4) := ⟨⟨by decide +kernel, by decide +kernel⟩, List.mem_of_getElem? (i := 67) (by decide +kernel), List.mem_of_getElem? (i := 194) (by decide +kernel), List.mem_of_getElem? (i := 195) (by decide +kernel)⟩
theorem lw_p1 : lw_okq (⟨"TorsionDesk$FinitePoints", "isMultiple", "(LTorsionDesk$Cubic;II)Z"⟩, 4) := ⟨⟨by decide +kernel, by decide +kernel⟩, List.mem_of_getElem? (i := 67) (by decide +kernel), List.mem_of_getElem? (i := 199) (by decide +kernel), List.mem_of_getElem? (i := 200) (by decide +kernel)⟩
theorem lw_p2 : lw_okq (⟨"java/lang/Throwable", "fillInStackTrace", "(I)Ljava/lang/Throwable;"⟩, 6) := ⟨⟨by decide +kernel, by decide +kernel⟩, List.mem_of_getElem? (i := 281) (by decide +kernel), List.mem_of_getElem? (i := 279) (by decide +kernel), List.mem_of_getElem? (i := 280) (by decide +kernel)⟩
theorem lw_p3 : lw_okq (⟨"TorsionDesk$SquareDivisors", "append", "(I)V"⟩, 3) := ⟨⟨by decide +kernel, by decide +kernel⟩, List.mem_of_getElem? (i := 48) (by decide +kernel), List.mem_of_getElem? (i := 354) (by decide +kernel), List.mem_of_getElem? (i := 355) (by decide +kernel)⟩
theorem lw_p4 : lw_okq (⟨"TorsionDesk$FinitePoints", "collect", "(LTorsionDesk$Cubic;LTorsionDesk$SquareDivisors;)V"⟩, 4) := ⟨⟨by decide +kernel, by decide +kernel⟩, List.mem_of_getElem? (i := 67) (by decide +kernel), List.mem_of_getElem? (i := 362) (by decide +kernel), List.mem_of_getElem? (i := 363) (by decide +kernel)⟩
theorem lw_p5 : lw_okq (⟨"TorsionDesk$FinitePoints", "append", "(II)V"⟩, 4) := ⟨⟨by decide +kernel, by decide +kernel⟩, List.mem_of_getElem? (i := 67) (by decide +kernel), List.mem_of_getElem? (i := 366) (by decide +kernel), List.mem_of_getElem? (i := 367) (by decide +kernel)⟩
theorem lw_p6 : lw_okq (⟨"TorsionDesk$FinitePoints", "orderOf", "(LTorsionDesk$Cubic;I)I"⟩, 4) := ⟨⟨by decide +kernel, by decide +kernel⟩, List.mem_of_getElem? (i := 67) (by decide +kernel), List.mem_of_getElem? (i := 375) (by decide +kernel), List.mem_of_getElem? (i := 376) (by decide +kernel)⟩
theorem lw_p7 : lw_okq (⟨"TorsionDesk$FinitePoints", "keepFinite", "()V"⟩, 4) := ⟨⟨by decide +kernel, by decide +kernel⟩, List.mem_of_getElem? (i := 67) (by decide +kernel), List.mem_of_getElem? (i := 379) (by decide +kernel), List.mem_of_getElem? (i := 380) (by decide +kernel)⟩
theorem lw_p8 : lw_okq (⟨"TorsionDeskModel", "cubic", "(J)J"⟩, 20) := ⟨⟨by decide +kernel, by decide +kernel⟩, List.mem_of_getElem? (i := 412) (by decide +kernel), List.mem_of_getElem? (i := 496) (by decide +kernel), List.mem_of_getElem? (i := 497) (by decide +kernel)⟩
theorem lw_p9 : lw_okq (⟨"TorsionDeskModel", "take", "(II)V"⟩, 20) := ⟨⟨by decide +kernel, by decide +kernel⟩, List.mem_of_getElem? (i := 412) (by decide +kernel), List.mem_of_getElem? (i := 500) (by decide +kernel), List.mem_of_getElem? (i := 501) (by decide +kernel)⟩
theorem lw_p10 : lw_okq (⟨"TorsionDeskModel", "add", "(ZJJJJ)V"⟩, 20) := ⟨⟨by decide +kernel, by decide +kernel⟩, List.mem_of_getElem? (i := 412) (by decide +kernel), List.mem_of_getElem? (i := 504) (by decide +kernel), List.mem_of_getElem? (i := 505) (by decide +kernel)⟩
theorem lw_p11 : lw_okq (⟨"TorsionDeskModel", "structure", "()V"⟩, 20) := ⟨⟨by decide +kernel, by decide +kernel⟩, List.mem_of_getElem? (i := 412) (by decide +kernel), List.mem_of_getElem? (i := 516) (by decide +kernel), List.mem_of_getElem? (i := 517) (by decide +kernel)⟩
theorem lw_p12 : lw_okq (⟨"TorsionDeskModel", "makes", "(II)Z"⟩, 20) := ⟨⟨by decide +kernel, by decide +kernel⟩, List.mem_of_getElem? (i := 412) (by decide +kernel), List.mem_of_getElem? (i := 520) (by decide +kernel), List.mem_of_getElem? (i := 521) (by decide +kernel)⟩
theorem lw_p13 : lw_okq (⟨"TorsionDeskModel", "sumOf", "(II)I"⟩, 20) := ⟨⟨by decide +kernel, by decide +kernel⟩, List.mem_of_getElem? (i := 412) (by decide +kernel), List.mem_of_getElem? (i := 524) (by decide +kernel), List.mem_of_getElem? (i := 525) (by decide +kernel)⟩
theorem lw_p14 : lw_okq (⟨"TorsionDeskModel", "number", "(JJ)I"⟩, 20) := ⟨⟨by decide +kernel, by decide +kernel⟩, List.mem_of_getElem? (i := 412) (by decide +kernel), List.mem_of_getElem? (i := 528) (by decide +kernel), List.mem_of_getElem? (i := 529) (by decide +kernel)⟩
theorem lw_p15 : lw_okq (⟨"TorsionDeskModel", "isPoint", "(I)Z"⟩, 20) := ⟨⟨by decide +kernel, by decide +kernel⟩, List.mem_of_getElem? (i := 412) (by decide +kernel), List.mem_of_getElem? (i := 552) (by decide +kernel), List.mem_of_getElem? (i := 553) (by decide +kernel)⟩
def lw_privs_1 : List (MethodName × Nat) := [(⟨"TorsionDesk$FinitePoints", "meetsOnlyInZero", "(LTorsionDesk$Cubic;II)Z"⟩, 4), (⟨"TorsionDesk$FinitePoints", "isMultiple", "(LTorsionDesk$Cubic;II)Z"⟩, 4), (⟨"java/lang/Throwable", "fillInStackTrace", "(I)Ljava/lang/Throwable;"⟩, 6), (⟨"TorsionDesk$SquareDivisors", "append", "(I)V"⟩, 3), (⟨"TorsionDesk$FinitePoints", "collect", "(LTorsionDesk$Cubic;LTorsionDesk$SquareDivisors;)V"⟩, 4), (⟨"TorsionDesk$FinitePoints", "append", "(II)V"⟩, 4), (⟨"TorsionDesk$FinitePoints", "orderOf", "(LTorsionDesk$Cubic;I)I"⟩, 4), (⟨"TorsionDesk$FinitePoints", "keepFinite", "()V"⟩, 4), (⟨"TorsionDeskModel", "cubic", "(J)J"⟩, 20), (⟨"TorsionDeskModel", "take", "(II)V"⟩, 20), (⟨"TorsionDeskModel", "add", "(ZJJJJ)V"⟩, 20), (⟨"TorsionDeskModel", "structure", "()V"⟩, 20), (⟨"TorsionDeskModel", "makes", "(II)Z"⟩, 20), (⟨"TorsionDeskModel", "sumOf", "(II)I"⟩, 20), (⟨"TorsionDeskModel", "number", "(JJ)I"⟩, 20), (⟨"TorsionDeskModel", "isPoint", "(I)Z"⟩, 20)]
theorem lw_r1 : ∀ q ∈ lw_privs_1, lw_okq q := List.forall_mem_cons.mpr ⟨lw_p0, List.forall_mem_cons.mpr ⟨lw_p1, List.forall_mem_cons.mpr ⟨lw_p2, List.forall_mem_cons.mpr ⟨lw_p3, List.forall_mem_cons.mpr ⟨lw_p4, List.forall_mem_cons.mpr ⟨lw_p5, List.forall_mem_cons.mpr ⟨lw_p6, List.forall_mem_cons.mpr ⟨lw_p7, List.forall_mem_cons.mpr ⟨lw_p8, List.forall_mem_cons.mpr ⟨lw_p9, List.forall_mem_cons.mpr ⟨lw_p10, List.forall_mem_cons.mpr ⟨lw_p11, List.forall_mem_cons.mpr ⟨lw_p12, List.forall_mem_cons.mpr ⟨lw_p13, List.forall_mem_cons.mpr ⟨lw_p14, List.forall_mem_cons.mpr ⟨lw_p15, fun _ h => absurd h List.not_mem_nil⟩⟩⟩⟩⟩⟩⟩⟩⟩⟩⟩⟩⟩⟩⟩⟩
theorem lw_p16 : lw_okq (⟨"TorsionDeskModel", "multiple", "(II)I"⟩, 20) := ⟨⟨by decide +kernel, by decide +kernel⟩, List.mem_of_getElem? (i := 412) (by decide +kernel), List.mem_of_getElem? (i := 571) (by decide +kernel), List.mem_of_getElem? (i := 572) (by decide +kernel)⟩
theorem lw_p17 : lw_okq (⟨"TorsionDeskModel", "counted", "(I)I"⟩, 20) := ⟨⟨by decide +kernel, by decide +kernel⟩, List.mem_of_getElem? (i := 412) (by decide +kernel), List.mem_of_getElem? (i := 582) (by decide +kernel), List.mem_of_getElem? (i := 583) (by decide +kernel)⟩
def lw_privs_2 : List (MethodName × Nat) := [(⟨"TorsionDeskModel", "multiple", "(II)I"⟩, 20), (⟨"TorsionDeskModel", "counted", "(I)I"⟩, 20)]
theorem lw_r2 : ∀ q ∈ lw_privs_2, lw_okq q := List.forall_mem_cons.mpr ⟨lw_p16, List.forall_mem_cons.mpr ⟨lw_p17, fun _ h => absurd h List.not_mem_nil⟩⟩
def lw_privs : List (MethodName × Nat) := lw_privs_1 ++ (lw_privs_2)
def lw_tbl : List Cond := k2_sels lw_privs ++ tables_1
theorem lw_privs_ok : ∀ q ∈ lw_privs, lw_okq q := by
  show ∀ q ∈ lw_privs_1 ++ (lw_privs_2), lw_okq q
  exact List.forall_mem_append.mpr ⟨lw_r1, lw_r2⟩

def tX0 : u_T := fun k => match k with
  | 0 => ("TorsionDesk$Cubic", "square", "J", false)
  | 1 => ("TorsionDesk$Cubic", "linear", "J", false)
  | 2 => ("TorsionDesk$Cubic", "constant", "J", false)
  | 3 => ("TorsionDesk$Cubic", "discriminant", "J", false)
  | _ => ("TorsionDesk$Cubic", "rootCounts", "[I", true)
def yX0 : Nat → FieldType := fun k => match k with
  | 0 => .long
  | 1 => .long
  | 2 => .long
  | 3 => .long
  | _ => .array .int
theorem nX0 : ∀ a, a < 5 → ∀ b, b < 5 → a ≠ b → (tX0 a).2.1 ≠ (tX0 b).2.1 := by decide +kernel
theorem yX0_ok : ∀ k, k < 5 → parseFieldDescriptor (tX0 k).2.2.1 = some (yX0 k) := by decide +kernel
def tX1 : u_T := fun k => match k with
  | 0 => ("TorsionDesk$FinitePoints", "xs", "[I", true)
  | 1 => ("TorsionDesk$FinitePoints", "ys", "[I", true)
  | 2 => ("TorsionDesk$FinitePoints", "orders", "[I", true)
  | _ => ("TorsionDesk$FinitePoints", "size", "I", false)
def yX1 : Nat → FieldType := fun k => match k with
  | 0 => .array .int
  | 1 => .array .int
  | 2 => .array .int
  | _ => .int
theorem nX1 : ∀ a, a < 4 → ∀ b, b < 4 → a ≠ b → (tX1 a).2.1 ≠ (tX1 b).2.1 := by decide +kernel
theorem yX1_ok : ∀ k, k < 4 → parseFieldDescriptor (tX1 k).2.2.1 = some (yX1 k) := by decide +kernel
def tX2 : u_T := fun k => match k with
  | 0 => ("TorsionDesk$SquareDivisors", "row", "[I", true)
  | 1 => ("TorsionDesk$SquareDivisors", "size", "I", false)
  | _ => ("TorsionDesk$SquareDivisors", "largestSquare", "J", false)
def yX2 : Nat → FieldType := fun k => match k with
  | 0 => .array .int
  | 1 => .int
  | _ => .long
theorem nX2 : ∀ a, a < 3 → ∀ b, b < 3 → a ≠ b → (tX2 a).2.1 ≠ (tX2 b).2.1 := by decide +kernel
theorem yX2_ok : ∀ k, k < 3 → parseFieldDescriptor (tX2 k).2.2.1 = some (yX2 k) := by decide +kernel
def tX3 : u_T := fun k => match k with
  | 0 => ("TorsionDesk", "cubic", "LTorsionDesk$Cubic;", true)
  | 1 => ("TorsionDesk", "divisors", "LTorsionDesk$SquareDivisors;", true)
  | 2 => ("TorsionDesk", "finite", "LTorsionDesk$FinitePoints;", true)
  | 3 => ("TorsionDesk", "hasCurve", "Z", false)
  | 4 => ("TorsionDesk", "a", "I", false)
  | _ => ("TorsionDesk", "c", "I", false)
def yX3 : Nat → FieldType := fun k => match k with
  | 0 => .object "TorsionDesk$Cubic"
  | 1 => .object "TorsionDesk$SquareDivisors"
  | 2 => .object "TorsionDesk$FinitePoints"
  | 3 => .boolean
  | 4 => .int
  | _ => .int
theorem nX3 : ∀ a, a < 6 → ∀ b, b < 6 → a ≠ b → (tX3 a).2.1 ≠ (tX3 b).2.1 := by decide +kernel
theorem yX3_ok : ∀ k, k < 6 → parseFieldDescriptor (tX3 k).2.2.1 = some (yX3 k) := by decide +kernel
def tX4 : u_T := fun k => match k with
  | 0 => ("TorsionDeskModel", "thrown", "I", false)
  | 1 => ("TorsionDeskModel", "there", "Z", false)
  | 2 => ("TorsionDeskModel", "ca", "I", false)
  | 3 => ("TorsionDeskModel", "cc", "I", false)
  | 4 => ("TorsionDeskModel", "one", "J", false)
  | 5 => ("TorsionDeskModel", "two", "J", false)
  | 6 => ("TorsionDeskModel", "three", "J", false)
  | 7 => ("TorsionDeskModel", "disc", "J", false)
  | 8 => ("TorsionDeskModel", "points", "I", false)
  | 9 => ("TorsionDeskModel", "px", "[I", true)
  | 10 => ("TorsionDeskModel", "py", "[I", true)
  | 11 => ("TorsionDeskModel", "order", "[I", true)
  | 12 => ("TorsionDeskModel", "zero", "Z", false)
  | 13 => ("TorsionDeskModel", "whole", "Z", false)
  | 14 => ("TorsionDeskModel", "sx", "J", false)
  | 15 => ("TorsionDeskModel", "sy", "J", false)
  | 16 => ("TorsionDeskModel", "rows", "I", false)
  | 17 => ("TorsionDeskModel", "columns", "I", false)
  | 18 => ("TorsionDeskModel", "first", "I", false)
  | _ => ("TorsionDeskModel", "second", "I", false)
def yX4 : Nat → FieldType := fun k => match k with
  | 0 => .int
  | 1 => .boolean
  | 2 => .int
  | 3 => .int
  | 4 => .long
  | 5 => .long
  | 6 => .long
  | 7 => .long
  | 8 => .int
  | 9 => .array .int
  | 10 => .array .int
  | 11 => .array .int
  | 12 => .boolean
  | 13 => .boolean
  | 14 => .long
  | 15 => .long
  | 16 => .int
  | 17 => .int
  | 18 => .int
  | _ => .int
theorem nX4 : ∀ a, a < 20 → ∀ b, b < 20 → a ≠ b → (tX4 a).2.1 ≠ (tX4 b).2.1 := by decide +kernel
theorem yX4_ok : ∀ k, k < 20 → parseFieldDescriptor (tX4 k).2.2.1 = some (yX4 k) := by decide +kernel
abbrev vwCl : List vw_C := [("TorsionDesk$Cubic", tX0, 5), ("TorsionDesk$FinitePoints", tX1, 4), ("TorsionDesk$SquareDivisors", tX2, 3), ("TorsionDesk", tX3, 6), ("TorsionDeskModel", tX4, 20)]
/-- all words of the tables that stay true -/
def zB : List Cond := lw_tbl.filter goodWord
theorem zB_in {w : Cond} (h : w ∈ zB) : w ∈ lw_tbl ∧ goodWord w = true := List.mem_filter.mp h
theorem zB_good {w : Cond} (h : w ∈ zB) : (w.onTables && w.keeps) = true ∨ ∃ ty, w = .arrayClass ty := good_of_word (zB_in h).2
theorem zB1 {w : Cond} (h : w ∈ tables_1) (g : goodWord w = true) : w ∈ zB := List.mem_filter.mpr ⟨List.mem_append_right _ h, g⟩
theorem zB2 {w : Cond} (h : w ∈ k2_sels lw_privs) (g : goodWord w = true) : w ∈ zB := List.mem_filter.mpr ⟨List.mem_append_left _ h, g⟩
theorem zGo {ws : List Cond} (h : ∀ w ∈ ws, w ∈ zB) : GoodIn zB ws := fun w hw => ⟨h w hw, zB_good (h w hw)⟩
theorem zgV {own C : String} {idx maxL : Nat} {y : MethodName} {c : ByteArray} {ret : Option FieldType} (h1 : Cond.methodLink own idx y ∈ zB) (h2 : Cond.instanceMethod y ∈ zB) (h3 : Cond.selects C y y ∈ zB) (h4 : Cond.initialized C ∈ zB) (h5 : Cond.code y c maxL ret ∈ zB) : GoodIn zB (wsV own idx C y (Cond.code y c maxL ret :: zB)) := by
  refine zGo fun w hw => ?_
  simp only [wsV, List.cons_append, List.nil_append, List.mem_cons] at hw
  rcases hw with rfl | rfl | rfl | rfl | rfl | hw
  · exact h1
  · exact h2
  · exact h3
  · exact h4
  · exact h5
  · exact hw
theorem zgS {own : String} {idx maxL : Nat} {y : MethodName} {c : ByteArray} {ret : Option FieldType} (h1 : Cond.methodLink own idx y ∈ zB) (h2 : Cond.static y ∈ zB) (h4 : Cond.initialized y.cls ∈ zB) (h5 : Cond.code y c maxL ret ∈ zB) : GoodIn zB (va_wsS own idx y (Cond.code y c maxL ret :: zB)) := by
  refine zGo fun w hw => ?_
  simp only [va_wsS, List.cons_append, List.nil_append, List.mem_cons] at hw
  rcases hw with rfl | rfl | rfl | rfl | hw
  · exact h1
  · exact h2
  · exact h4
  · exact h5
  · exact hw
abbrev c_td_init : ByteArray := prog_1_method_1_code
def y_td_init : MethodName := { cls := "TorsionDesk", name := "<init>", desc := "()V" }
abbrev zs_td_init : List Cond := Cond.code y_td_init c_td_init 1 none :: zB
abbrev c_td_curve : ByteArray := prog_1_method_2_code
def y_td_curve : MethodName := { cls := "TorsionDesk", name := "curve", desc := "(IIIII)I" }
abbrev zs_td_curve : List Cond := Cond.code y_td_curve c_td_curve 12 (some .int) :: zB
abbrev c_td_discriminant : ByteArray := prog_1_method_3_code
def y_td_discriminant : MethodName := { cls := "TorsionDesk", name := "discriminant", desc := "()J" }
abbrev zs_td_discriminant : List Cond := Cond.code y_td_discriminant c_td_discriminant 1 (some .long) :: zB
abbrev c_td_candidate : ByteArray := prog_1_method_4_code
def y_td_candidate : MethodName := { cls := "TorsionDesk", name := "candidate", desc := "(I)I" }
abbrev zs_td_candidate : List Cond := Cond.code y_td_candidate c_td_candidate 2 (some .int) :: zB
abbrev c_td_points : ByteArray := prog_1_method_5_code
def y_td_points : MethodName := { cls := "TorsionDesk", name := "points", desc := "()I" }
abbrev zs_td_points : List Cond := Cond.code y_td_points c_td_points 1 (some .int) :: zB
abbrev c_td_point : ByteArray := prog_1_method_6_code
def y_td_point : MethodName := { cls := "TorsionDesk", name := "point", desc := "(II)I" }
abbrev zs_td_point : List Cond := Cond.code y_td_point c_td_point 6 (some .int) :: zB
abbrev c_td_find : ByteArray := prog_1_method_7_code
def y_td_find : MethodName := { cls := "TorsionDesk", name := "find", desc := "(II)I" }
abbrev zs_td_find : List Cond := Cond.code y_td_find c_td_find 3 (some .int) :: zB
abbrev c_td_sum : ByteArray := prog_1_method_8_code
def y_td_sum : MethodName := { cls := "TorsionDesk", name := "sum", desc := "(II)I" }
abbrev zs_td_sum : List Cond := Cond.code y_td_sum c_td_sum 3 (some .int) :: zB
abbrev c_td_times : ByteArray := prog_1_method_9_code
def y_td_times : MethodName := { cls := "TorsionDesk", name := "times", desc := "(II)I" }
abbrev zs_td_times : List Cond := Cond.code y_td_times c_td_times 3 (some .int) :: zB
abbrev c_td_structure : ByteArray := prog_1_method_10_code
def y_td_structure : MethodName := { cls := "TorsionDesk", name := "structure", desc := "(I)I" }
abbrev zs_td_structure : List Cond := Cond.code y_td_structure c_td_structure 2 (some .int) :: zB
abbrev c_td_modulo : ByteArray := prog_1_method_11_code
def y_td_modulo : MethodName := { cls := "TorsionDesk", name := "modulo", desc := "(I)I" }
abbrev zs_td_modulo : List Cond := Cond.code y_td_modulo c_td_modulo 2 (some .int) :: zB
abbrev c_td_bound : ByteArray := prog_1_method_12_code
def y_td_bound : MethodName := { cls := "TorsionDesk", name := "bound", desc := "(I)I" }
abbrev zs_td_bound : List Cond := Cond.code y_td_bound c_td_bound 7 (some .int) :: zB
abbrev c_td_isCoefficient : ByteArray := prog_1_method_13_code
def y_td_isCoefficient : MethodName := { cls := "TorsionDesk", name := "isCoefficient", desc := "(I)Z" }
abbrev zs_td_isCoefficient : List Cond := Cond.code y_td_isCoefficient c_td_isCoefficient 1 (some .boolean) :: zB
abbrev c_td_isPrime : ByteArray := prog_1_method_14_code
def y_td_isPrime : MethodName := { cls := "TorsionDesk", name := "isPrime", desc := "(I)Z" }
abbrev zs_td_isPrime : List Cond := Cond.code y_td_isPrime c_td_isPrime 5 (some .boolean) :: zB
abbrev c_td_sharedTwos : ByteArray := prog_1_method_15_code
def y_td_sharedTwos : MethodName := { cls := "TorsionDesk", name := "sharedTwos", desc := "(II)I" }
abbrev zs_td_sharedTwos : List Cond := Cond.code y_td_sharedTwos c_td_sharedTwos 3 (some .int) :: zB
abbrev c_td_greatestDivisor : ByteArray := prog_1_method_16_code
def y_td_greatestDivisor : MethodName := { cls := "TorsionDesk", name := "greatestDivisor", desc := "(II)I" }
abbrev zs_td_greatestDivisor : List Cond := Cond.code y_td_greatestDivisor c_td_greatestDivisor 6 (some .int) :: zB
abbrev c_md_init : ByteArray := prog_6_method_1_code
def y_md_init : MethodName := { cls := "TorsionDeskModel", name := "<init>", desc := "()V" }
abbrev zs_md_init : List Cond := Cond.code y_md_init c_md_init 1 none :: zB
abbrev c_md_thrown : ByteArray := prog_6_method_2_code
def y_md_thrown : MethodName := { cls := "TorsionDeskModel", name := "thrown", desc := "()I" }
abbrev zs_md_thrown : List Cond := Cond.code y_md_thrown c_md_thrown 1 (some .int) :: zB
abbrev c_md_discriminantOf : ByteArray := prog_6_method_3_code
def y_md_discriminantOf : MethodName := { cls := "TorsionDeskModel", name := "discriminantOf", desc := "(JJJ)J" }
abbrev zs_md_discriminantOf : List Cond := Cond.code y_md_discriminantOf c_md_discriminantOf 6 (some .long) :: zB
abbrev c_md_cubic : ByteArray := prog_6_method_4_code
def y_md_cubic : MethodName := { cls := "TorsionDeskModel", name := "cubic", desc := "(J)J" }
abbrev zs_md_cubic : List Cond := Cond.code y_md_cubic c_md_cubic 3 (some .long) :: zB
abbrev c_md_small : ByteArray := prog_6_method_5_code
def y_md_small : MethodName := { cls := "TorsionDeskModel", name := "small", desc := "(I)Z" }
abbrev zs_md_small : List Cond := Cond.code y_md_small c_md_small 1 (some .boolean) :: zB
abbrev c_md_curve : ByteArray := prog_6_method_6_code
def y_md_curve : MethodName := { cls := "TorsionDeskModel", name := "curve", desc := "(IIIII)I" }
abbrev zs_md_curve : List Cond := Cond.code y_md_curve c_md_curve 17 (some .int) :: zB
abbrev c_md_root : ByteArray := prog_6_method_7_code
def y_md_root : MethodName := { cls := "TorsionDeskModel", name := "root", desc := "(J)I" }
abbrev zs_md_root : List Cond := Cond.code y_md_root c_md_root 6 (some .int) :: zB
abbrev c_md_take : ByteArray := prog_6_method_8_code
def y_md_take : MethodName := { cls := "TorsionDeskModel", name := "take", desc := "(II)V" }
abbrev zs_md_take : List Cond := Cond.code y_md_take c_md_take 4 none :: zB
abbrev c_md_add : ByteArray := prog_6_method_9_code
def y_md_add : MethodName := { cls := "TorsionDeskModel", name := "add", desc := "(ZJJJJ)V" }
abbrev zs_md_add : List Cond := Cond.code y_md_add c_md_add 19 none :: zB
abbrev c_md_number : ByteArray := prog_6_method_10_code
def y_md_number : MethodName := { cls := "TorsionDeskModel", name := "number", desc := "(JJ)I" }
abbrev zs_md_number : List Cond := Cond.code y_md_number c_md_number 6 (some .int) :: zB
abbrev c_md_sumOf : ByteArray := prog_6_method_11_code
def y_md_sumOf : MethodName := { cls := "TorsionDeskModel", name := "sumOf", desc := "(II)I" }
abbrev zs_md_sumOf : List Cond := Cond.code y_md_sumOf c_md_sumOf 3 (some .int) :: zB
abbrev c_md_multiple : ByteArray := prog_6_method_12_code
def y_md_multiple : MethodName := { cls := "TorsionDeskModel", name := "multiple", desc := "(II)I" }
abbrev zs_md_multiple : List Cond := Cond.code y_md_multiple c_md_multiple 5 (some .int) :: zB
abbrev c_md_makes : ByteArray := prog_6_method_13_code
def y_md_makes : MethodName := { cls := "TorsionDeskModel", name := "makes", desc := "(II)Z" }
abbrev zs_md_makes : List Cond := Cond.code y_md_makes c_md_makes 9 (some .boolean) :: zB
abbrev c_md_structure_x : ByteArray := prog_6_method_14_code
def y_md_structure_x : MethodName := { cls := "TorsionDeskModel", name := "structure", desc := "()V" }
abbrev zs_md_structure_x : List Cond := Cond.code y_md_structure_x c_md_structure_x 2 none :: zB
abbrev c_md_structure_Ix : ByteArray := prog_6_method_15_code
def y_md_structure_Ix : MethodName := { cls := "TorsionDeskModel", name := "structure", desc := "(I)I" }
abbrev zs_md_structure_Ix : List Cond := Cond.code y_md_structure_Ix c_md_structure_Ix 2 (some .int) :: zB
abbrev c_md_discriminant : ByteArray := prog_6_method_16_code
def y_md_discriminant : MethodName := { cls := "TorsionDeskModel", name := "discriminant", desc := "()J" }
abbrev zs_md_discriminant : List Cond := Cond.code y_md_discriminant c_md_discriminant 1 (some .long) :: zB
abbrev c_md_candidate : ByteArray := prog_6_method_17_code
def y_md_candidate : MethodName := { cls := "TorsionDeskModel", name := "candidate", desc := "(I)I" }
abbrev zs_md_candidate : List Cond := Cond.code y_md_candidate c_md_candidate 7 (some .int) :: zB
abbrev c_md_points : ByteArray := prog_6_method_18_code
def y_md_points : MethodName := { cls := "TorsionDeskModel", name := "points", desc := "()I" }
abbrev zs_md_points : List Cond := Cond.code y_md_points c_md_points 1 (some .int) :: zB
abbrev c_md_isPoint : ByteArray := prog_6_method_19_code
def y_md_isPoint : MethodName := { cls := "TorsionDeskModel", name := "isPoint", desc := "(I)Z" }
abbrev zs_md_isPoint : List Cond := Cond.code y_md_isPoint c_md_isPoint 2 (some .boolean) :: zB
abbrev c_md_common : ByteArray := prog_6_method_20_code
def y_md_common : MethodName := { cls := "TorsionDeskModel", name := "common", desc := "(II)I" }
abbrev zs_md_common : List Cond := Cond.code y_md_common c_md_common 5 (some .int) :: zB
abbrev c_md_point : ByteArray := prog_6_method_21_code
def y_md_point : MethodName := { cls := "TorsionDeskModel", name := "point", desc := "(II)I" }
abbrev zs_md_point : List Cond := Cond.code y_md_point c_md_point 6 (some .int) :: zB
abbrev c_md_find : ByteArray := prog_6_method_22_code
def y_md_find : MethodName := { cls := "TorsionDeskModel", name := "find", desc := "(II)I" }
abbrev zs_md_find : List Cond := Cond.code y_md_find c_md_find 3 (some .int) :: zB
abbrev c_md_sum : ByteArray := prog_6_method_23_code
def y_md_sum : MethodName := { cls := "TorsionDeskModel", name := "sum", desc := "(II)I" }
abbrev zs_md_sum : List Cond := Cond.code y_md_sum c_md_sum 3 (some .int) :: zB
abbrev c_md_times : ByteArray := prog_6_method_24_code
def y_md_times : MethodName := { cls := "TorsionDeskModel", name := "times", desc := "(II)I" }
abbrev zs_md_times : List Cond := Cond.code y_md_times c_md_times 4 (some .int) :: zB
abbrev c_md_isPrime : ByteArray := prog_6_method_25_code
def y_md_isPrime : MethodName := { cls := "TorsionDeskModel", name := "isPrime", desc := "(I)Z" }
abbrev zs_md_isPrime : List Cond := Cond.code y_md_isPrime c_md_isPrime 2 (some .boolean) :: zB
abbrev c_md_counted : ByteArray := prog_6_method_26_code
def y_md_counted : MethodName := { cls := "TorsionDeskModel", name := "counted", desc := "(I)I" }
abbrev zs_md_counted : List Cond := Cond.code y_md_counted c_md_counted 6 (some .int) :: zB
abbrev c_md_modulo : ByteArray := prog_6_method_27_code
def y_md_modulo : MethodName := { cls := "TorsionDeskModel", name := "modulo", desc := "(I)I" }
abbrev zs_md_modulo : List Cond := Cond.code y_md_modulo c_md_modulo 2 (some .int) :: zB
abbrev c_md_bound : ByteArray := prog_6_method_28_code
def y_md_bound : MethodName := { cls := "TorsionDeskModel", name := "bound", desc := "(I)I" }
abbrev zs_md_bound : List Cond := Cond.code y_md_bound c_md_bound 4 (some .int) :: zB
abbrev c_cu_init : ByteArray := prog_2_method_1_code
def y_cu_init : MethodName := { cls := "TorsionDesk$Cubic", name := "<init>", desc := "()V" }
abbrev zs_cu_init : List Cond := Cond.code y_cu_init c_cu_init 1 none :: zB
abbrev c_cu_discriminantOf : ByteArray := prog_2_method_2_code
def y_cu_discriminantOf : MethodName := { cls := "TorsionDesk$Cubic", name := "discriminantOf", desc := "(JJJ)J" }
abbrev zs_cu_discriminantOf : List Cond := Cond.code y_cu_discriminantOf c_cu_discriminantOf 6 (some .long) :: zB
abbrev c_cu_become : ByteArray := prog_2_method_3_code
def y_cu_become : MethodName := { cls := "TorsionDesk$Cubic", name := "become", desc := "(JJJ)V" }
abbrev zs_cu_become : List Cond := Cond.code y_cu_become c_cu_become 7 none :: zB
abbrev c_cu_valueAt : ByteArray := prog_2_method_4_code
def y_cu_valueAt : MethodName := { cls := "TorsionDesk$Cubic", name := "valueAt", desc := "(J)J" }
abbrev zs_cu_valueAt : List Cond := Cond.code y_cu_valueAt c_cu_valueAt 3 (some .long) :: zB
abbrev c_cu_steepnessAt : ByteArray := prog_2_method_5_code
def y_cu_steepnessAt : MethodName := { cls := "TorsionDesk$Cubic", name := "steepnessAt", desc := "(J)J" }
abbrev zs_cu_steepnessAt : List Cond := Cond.code y_cu_steepnessAt c_cu_steepnessAt 3 (some .long) :: zB
abbrev c_cu_isGoodFor : ByteArray := prog_2_method_6_code
def y_cu_isGoodFor : MethodName := { cls := "TorsionDesk$Cubic", name := "isGoodFor", desc := "(I)Z" }
abbrev zs_cu_isGoodFor : List Cond := Cond.code y_cu_isGoodFor c_cu_isGoodFor 2 (some .boolean) :: zB
abbrev c_cu_countFor : ByteArray := prog_2_method_7_code
def y_cu_countFor : MethodName := { cls := "TorsionDesk$Cubic", name := "countFor", desc := "(I)I" }
abbrev zs_cu_countFor : List Cond := Cond.code y_cu_countFor c_cu_countFor 4 (some .int) :: zB
abbrev c_fp_init : ByteArray := prog_3_method_1_code
def y_fp_init : MethodName := { cls := "TorsionDesk$FinitePoints", name := "<init>", desc := "()V" }
abbrev zs_fp_init : List Cond := Cond.code y_fp_init c_fp_init 1 none :: zB
abbrev c_fp_has : ByteArray := prog_3_method_2_code
def y_fp_has : MethodName := { cls := "TorsionDesk$FinitePoints", name := "has", desc := "(I)Z" }
abbrev zs_fp_has : List Cond := Cond.code y_fp_has c_fp_has 2 (some .boolean) :: zB
abbrev c_fp_search : ByteArray := prog_3_method_3_code
def y_fp_search : MethodName := { cls := "TorsionDesk$FinitePoints", name := "search", desc := "(LTorsionDesk$Cubic;LTorsionDesk$SquareDivisors;)V" }
abbrev zs_fp_search : List Cond := Cond.code y_fp_search c_fp_search 4 none :: zB
abbrev c_fp_collect : ByteArray := prog_3_method_4_code
def y_fp_collect : MethodName := { cls := "TorsionDesk$FinitePoints", name := "collect", desc := "(LTorsionDesk$Cubic;LTorsionDesk$SquareDivisors;)V" }
abbrev zs_fp_collect : List Cond := Cond.code y_fp_collect c_fp_collect 7 none :: zB
abbrev c_fp_append : ByteArray := prog_3_method_5_code
def y_fp_append : MethodName := { cls := "TorsionDesk$FinitePoints", name := "append", desc := "(II)V" }
abbrev zs_fp_append : List Cond := Cond.code y_fp_append c_fp_append 3 none :: zB
abbrev c_fp_orderOf : ByteArray := prog_3_method_6_code
def y_fp_orderOf : MethodName := { cls := "TorsionDesk$FinitePoints", name := "orderOf", desc := "(LTorsionDesk$Cubic;I)I" }
abbrev zs_fp_orderOf : List Cond := Cond.code y_fp_orderOf c_fp_orderOf 5 (some .int) :: zB
abbrev c_fp_keepFinite : ByteArray := prog_3_method_7_code
def y_fp_keepFinite : MethodName := { cls := "TorsionDesk$FinitePoints", name := "keepFinite", desc := "()V" }
abbrev zs_fp_keepFinite : List Cond := Cond.code y_fp_keepFinite c_fp_keepFinite 3 none :: zB
abbrev c_fp_numberOf : ByteArray := prog_3_method_8_code
def y_fp_numberOf : MethodName := { cls := "TorsionDesk$FinitePoints", name := "numberOf", desc := "(JJ)I" }
abbrev zs_fp_numberOf : List Cond := Cond.code y_fp_numberOf c_fp_numberOf 6 (some .int) :: zB
abbrev c_fp_added : ByteArray := prog_3_method_9_code
def y_fp_added : MethodName := { cls := "TorsionDesk$FinitePoints", name := "added", desc := "(LTorsionDesk$Cubic;II)I" }
abbrev zs_fp_added : List Cond := Cond.code y_fp_added c_fp_added 17 (some .int) :: zB
abbrev c_fp_multiple : ByteArray := prog_3_method_10_code
def y_fp_multiple : MethodName := { cls := "TorsionDesk$FinitePoints", name := "multiple", desc := "(LTorsionDesk$Cubic;II)I" }
abbrev zs_fp_multiple : List Cond := Cond.code y_fp_multiple c_fp_multiple 8 (some .int) :: zB
abbrev c_fp_greatestOrder : ByteArray := prog_3_method_11_code
def y_fp_greatestOrder : MethodName := { cls := "TorsionDesk$FinitePoints", name := "greatestOrder", desc := "()I" }
abbrev zs_fp_greatestOrder : List Cond := Cond.code y_fp_greatestOrder c_fp_greatestOrder 3 (some .int) :: zB
abbrev c_fp_smallerFactor : ByteArray := prog_3_method_12_code
def y_fp_smallerFactor : MethodName := { cls := "TorsionDesk$FinitePoints", name := "smallerFactor", desc := "()I" }
abbrev zs_fp_smallerFactor : List Cond := Cond.code y_fp_smallerFactor c_fp_smallerFactor 2 (some .int) :: zB
abbrev c_fp_greaterMaker : ByteArray := prog_3_method_13_code
def y_fp_greaterMaker : MethodName := { cls := "TorsionDesk$FinitePoints", name := "greaterMaker", desc := "()I" }
abbrev zs_fp_greaterMaker : List Cond := Cond.code y_fp_greaterMaker c_fp_greaterMaker 3 (some .int) :: zB
abbrev c_fp_smallerMaker : ByteArray := prog_3_method_14_code
def y_fp_smallerMaker : MethodName := { cls := "TorsionDesk$FinitePoints", name := "smallerMaker", desc := "(LTorsionDesk$Cubic;)I" }
abbrev zs_fp_smallerMaker : List Cond := Cond.code y_fp_smallerMaker c_fp_smallerMaker 5 (some .int) :: zB
abbrev c_fp_meetsOnlyInZero : ByteArray := prog_3_method_15_code
def y_fp_meetsOnlyInZero : MethodName := { cls := "TorsionDesk$FinitePoints", name := "meetsOnlyInZero", desc := "(LTorsionDesk$Cubic;II)Z" }
abbrev zs_fp_meetsOnlyInZero : List Cond := Cond.code y_fp_meetsOnlyInZero c_fp_meetsOnlyInZero 5 (some .boolean) :: zB
abbrev c_fp_isMultiple : ByteArray := prog_3_method_16_code
def y_fp_isMultiple : MethodName := { cls := "TorsionDesk$FinitePoints", name := "isMultiple", desc := "(LTorsionDesk$Cubic;II)Z" }
abbrev zs_fp_isMultiple : List Cond := Cond.code y_fp_isMultiple c_fp_isMultiple 6 (some .boolean) :: zB
abbrev c_sd_init : ByteArray := prog_4_method_1_code
def y_sd_init : MethodName := { cls := "TorsionDesk$SquareDivisors", name := "<init>", desc := "()V" }
abbrev zs_sd_init : List Cond := Cond.code y_sd_init c_sd_init 1 none :: zB
abbrev c_sd_listFor : ByteArray := prog_4_method_2_code
def y_sd_listFor : MethodName := { cls := "TorsionDesk$SquareDivisors", name := "listFor", desc := "(J)V" }
abbrev zs_sd_listFor : List Cond := Cond.code y_sd_listFor c_sd_listFor 6 none :: zB
abbrev c_sd_rootOf : ByteArray := prog_4_method_3_code
def y_sd_rootOf : MethodName := { cls := "TorsionDesk$SquareDivisors", name := "rootOf", desc := "(J)I" }
abbrev zs_sd_rootOf : List Cond := Cond.code y_sd_rootOf c_sd_rootOf 4 (some .int) :: zB
abbrev c_sd_append : ByteArray := prog_4_method_4_code
def y_sd_append : MethodName := { cls := "TorsionDesk$SquareDivisors", name := "append", desc := "(I)V" }
abbrev zs_sd_append : List Cond := Cond.code y_sd_append c_sd_append 2 none :: zB
abbrev c_sd_largestRoot : ByteArray := prog_4_method_5_code
def y_sd_largestRoot : MethodName := { cls := "TorsionDesk$SquareDivisors", name := "largestRoot", desc := "(J)I" }
abbrev zs_sd_largestRoot : List Cond := Cond.code y_sd_largestRoot c_sd_largestRoot 9 (some .int) :: zB
abbrev c_sd_floorOfRoot : ByteArray := prog_4_method_6_code
def y_sd_floorOfRoot : MethodName := { cls := "TorsionDesk$SquareDivisors", name := "floorOfRoot", desc := "(J)J" }
abbrev zs_sd_floorOfRoot : List Cond := Cond.code y_sd_floorOfRoot c_sd_floorOfRoot 6 (some .long) :: zB
abbrev c_lw_curve : ByteArray := method_3_code
def y_lw_curve : MethodName := { cls := "TorsionDeskLaw", name := "curve", desc := "(LTorsionDesk;IIIII[J)I" }
abbrev c_lw_modulo : ByteArray := method_4_code
def y_lw_modulo : MethodName := { cls := "TorsionDeskLaw", name := "modulo", desc := "(LTorsionDesk;I[J)I" }
abbrev c_lw_law : ByteArray := code
def y_lw_law : MethodName := { cls := "TorsionDeskLaw", name := "law", desc := "([I)Z" }
abbrev zs_lw_law : List Cond := Cond.code y_lw_law c_lw_law 7 (some .boolean) :: zB
abbrev c_ma_abs : ByteArray := prog_11_method_61_code
def y_ma_abs : MethodName := { cls := "java/lang/Math", name := "abs", desc := "(J)J" }
abbrev zs_ma_abs : List Cond := Cond.code y_ma_abs c_ma_abs 2 (some .long) :: zB
abbrev c_ma_max : ByteArray := prog_11_method_65_code
def y_ma_max : MethodName := { cls := "java/lang/Math", name := "max", desc := "(II)I" }
abbrev zs_ma_max : List Cond := Cond.code y_ma_max c_ma_max 2 (some .int) :: zB
abbrev c_ma_floorMod_IIx : ByteArray := prog_11_method_50_code
def y_ma_floorMod_IIx : MethodName := { cls := "java/lang/Math", name := "floorMod", desc := "(II)I" }
abbrev zs_ma_floorMod_IIx : List Cond := Cond.code y_ma_floorMod_IIx c_ma_floorMod_IIx 3 (some .int) :: zB
abbrev c_ma_floorMod_JJx : ByteArray := prog_11_method_52_code
def y_ma_floorMod_JJx : MethodName := { cls := "java/lang/Math", name := "floorMod", desc := "(JJ)J" }
abbrev zs_ma_floorMod_JJx : List Cond := Cond.code y_ma_floorMod_JJx c_ma_floorMod_JJx 6 (some .long) :: zB
abbrev c_ar_fill : ByteArray := prog_15_method_103_code
def y_ar_fill : MethodName := { cls := "java/util/Arrays", name := "fill", desc := "([II)V" }
abbrev zs_ar_fill : List Cond := Cond.code y_ar_fill c_ar_fill 4 none :: zB
theorem zw_0 : (Jvm.Cond.initialized "TorsionDeskLaw") ∈ zB := zB1 (List.mem_append_left _ (List.mem_of_getElem? (i := 0) rfl)) rfl
theorem zw_1 : (Jvm.Cond.initialized "TorsionDesk") ∈ zB := zB1 (List.mem_append_left _ (List.mem_of_getElem? (i := 1) rfl)) rfl
theorem zw_2 : (Jvm.Cond.initialized "TorsionDesk$Cubic") ∈ zB := zB1 (List.mem_append_left _ (List.mem_of_getElem? (i := 2) rfl)) rfl
theorem zw_3 : (Jvm.Cond.initialized "TorsionDesk$SquareDivisors") ∈ zB := zB1 (List.mem_append_left _ (List.mem_of_getElem? (i := 3) rfl)) rfl
theorem zw_4 : (Jvm.Cond.initialized "TorsionDesk$FinitePoints") ∈ zB := zB1 (List.mem_append_left _ (List.mem_of_getElem? (i := 4) rfl)) rfl
theorem zw_5 : (Jvm.Cond.initialized "TorsionDeskModel") ∈ zB := zB1 (List.mem_append_left _ (List.mem_of_getElem? (i := 5) rfl)) rfl
theorem zw_6 : (Jvm.Cond.initialized "java/lang/Throwable") ∈ zB := zB1 (List.mem_append_left _ (List.mem_of_getElem? (i := 6) rfl)) rfl
theorem zw_7 : (Jvm.Cond.initialized "java/lang/Exception") ∈ zB := zB1 (List.mem_append_left _ (List.mem_of_getElem? (i := 7) rfl)) rfl
theorem zw_8 : (Jvm.Cond.initialized "java/lang/RuntimeException") ∈ zB := zB1 (List.mem_append_left _ (List.mem_of_getElem? (i := 8) rfl)) rfl
theorem zw_9 : (Jvm.Cond.initialized "java/lang/IllegalArgumentException") ∈ zB := zB1 (List.mem_append_left _ (List.mem_of_getElem? (i := 9) rfl)) rfl
theorem zw_10 : (Jvm.Cond.initialized "java/lang/ArithmeticException") ∈ zB := zB1 (List.mem_append_left _ (List.mem_of_getElem? (i := 10) rfl)) rfl
theorem zw_11 : (Jvm.Cond.initialized "java/lang/Math") ∈ zB := zB1 (List.mem_append_left _ (List.mem_of_getElem? (i := 11) rfl)) rfl
theorem zw_12 : (Jvm.Cond.initialized "java/lang/IllegalStateException") ∈ zB := zB1 (List.mem_append_left _ (List.mem_of_getElem? (i := 12) rfl)) rfl
theorem zw_13 : (Jvm.Cond.initialized "java/util/Arrays") ∈ zB := zB1 (List.mem_append_left _ (List.mem_of_getElem? (i := 13) rfl)) rfl
theorem zw_14 : (Jvm.Cond.classLink "TorsionDeskLaw" (8 : Nat) "TorsionDesk") ∈ zB := zB1 (List.mem_append_left _ (List.mem_of_getElem? (i := 14) rfl)) rfl
theorem zw_15 : (Jvm.Cond.instantiable "TorsionDesk" (6 : Nat)) ∈ zB := zB1 (List.mem_append_left _ (List.mem_of_getElem? (i := 15) rfl)) rfl
theorem zw_16 : (Jvm.Cond.methodLink "TorsionDeskLaw" (23 : Nat) ({ cls := "TorsionDesk", name := "<init>", desc := "()V" } : Jvm.MethodName)) ∈ zB := zB1 (List.mem_append_left _ (List.mem_of_getElem? (i := 16) rfl)) rfl
theorem zw_17 : (Jvm.Cond.instanceMethod ({ cls := "TorsionDesk", name := "<init>", desc := "()V" } : Jvm.MethodName)) ∈ zB := zB1 (List.mem_append_left _ (List.mem_of_getElem? (i := 17) rfl)) rfl
theorem zw_18 : (Jvm.Cond.code ({ cls := "TorsionDesk", name := "<init>", desc := "()V" } : Jvm.MethodName) prog_1_method_1_code (1 : Nat) (Option.none : Option Jvm.ClassFile.FieldType)) ∈ zB := zB1 (List.mem_append_left _ (List.mem_of_getElem? (i := 18) rfl)) rfl
theorem zw_19 : (Jvm.Cond.methodLink "TorsionDesk" (1 : Nat) ({ cls := "java/lang/Object", name := "<init>", desc := "()V" } : Jvm.MethodName)) ∈ zB := zB1 (List.mem_append_left _ (List.mem_of_getElem? (i := 19) rfl)) rfl
theorem zw_20 : (Jvm.Cond.instanceMethod ({ cls := "java/lang/Object", name := "<init>", desc := "()V" } : Jvm.MethodName)) ∈ zB := zB1 (List.mem_append_left _ (List.mem_of_getElem? (i := 20) rfl)) rfl
theorem zw_21 : (Jvm.Cond.code ({ cls := "java/lang/Object", name := "<init>", desc := "()V" } : Jvm.MethodName) object_method_1_code (1 : Nat) (Option.none : Option Jvm.ClassFile.FieldType)) ∈ zB := zB1 (List.mem_append_left _ (List.mem_of_getElem? (i := 21) rfl)) rfl
theorem zw_22 : (Jvm.Cond.classLink "TorsionDesk" (7 : Nat) "TorsionDesk$Cubic") ∈ zB := zB1 (List.mem_append_left _ (List.mem_of_getElem? (i := 22) rfl)) rfl
theorem zw_23 : (Jvm.Cond.instantiable "TorsionDesk$Cubic" (5 : Nat)) ∈ zB := zB1 (List.mem_append_left _ (List.mem_of_getElem? (i := 23) rfl)) rfl
theorem zw_25 : (Jvm.Cond.instanceMethod ({ cls := "TorsionDesk$Cubic", name := "<init>", desc := "()V" } : Jvm.MethodName)) ∈ zB := zB1 (List.mem_append_left _ (List.mem_of_getElem? (i := 25) rfl)) rfl
theorem zw_26 : (Jvm.Cond.code ({ cls := "TorsionDesk$Cubic", name := "<init>", desc := "()V" } : Jvm.MethodName) prog_2_method_1_code (1 : Nat) (Option.none : Option Jvm.ClassFile.FieldType)) ∈ zB := zB1 (List.mem_append_left _ (List.mem_of_getElem? (i := 26) rfl)) rfl
theorem zw_27 : (Jvm.Cond.methodLink "TorsionDesk$Cubic" (3 : Nat) ({ cls := "java/lang/Object", name := "<init>", desc := "()V" } : Jvm.MethodName)) ∈ zB := zB1 (List.mem_append_left _ (List.mem_of_getElem? (i := 27) rfl)) rfl
theorem zw_28 : (Jvm.Cond.fieldLink "TorsionDesk$Cubic" (21 : Nat) "TorsionDesk$Cubic" "square" "J") ∈ zB := zB1 (List.mem_append_left _ (List.mem_of_getElem? (i := 28) rfl)) rfl
theorem zw_29 : (Jvm.Cond.fieldLink "TorsionDesk$FinitePoints" (69 : Nat) "TorsionDesk$Cubic" "square" "J") ∈ zB := zB1 (List.mem_append_left _ (List.mem_of_getElem? (i := 29) rfl)) rfl
theorem zw_30 : (Jvm.Cond.fieldLink "TorsionDesk$Cubic" (25 : Nat) "TorsionDesk$Cubic" "linear" "J") ∈ zB := zB1 (List.mem_append_left _ (List.mem_of_getElem? (i := 30) rfl)) rfl
theorem zw_31 : (Jvm.Cond.fieldLink "TorsionDesk$Cubic" (28 : Nat) "TorsionDesk$Cubic" "constant" "J") ∈ zB := zB1 (List.mem_append_left _ (List.mem_of_getElem? (i := 31) rfl)) rfl
theorem zw_32 : (Jvm.Cond.fieldLink "TorsionDesk" (61 : Nat) "TorsionDesk$Cubic" "discriminant" "J") ∈ zB := zB1 (List.mem_append_left _ (List.mem_of_getElem? (i := 32) rfl)) rfl
theorem zw_33 : (Jvm.Cond.fieldLink "TorsionDesk$Cubic" (35 : Nat) "TorsionDesk$Cubic" "discriminant" "J") ∈ zB := zB1 (List.mem_append_left _ (List.mem_of_getElem? (i := 33) rfl)) rfl
theorem zw_34 : (Jvm.Cond.fieldLink "TorsionDesk$Cubic" (9 : Nat) "TorsionDesk$Cubic" "rootCounts" "[I") ∈ zB := zB1 (List.mem_append_left _ (List.mem_of_getElem? (i := 34) rfl)) rfl
theorem zw_35 : (Jvm.Cond.lays "TorsionDesk$Cubic" "TorsionDesk$Cubic" "square" "J") ∈ zB := zB1 (List.mem_append_left _ (List.mem_of_getElem? (i := 35) rfl)) rfl
theorem zw_37 : (Jvm.Cond.lays "TorsionDesk$Cubic" "TorsionDesk$Cubic" "linear" "J") ∈ zB := zB1 (List.mem_append_left _ (List.mem_of_getElem? (i := 37) rfl)) rfl
theorem zw_39 : (Jvm.Cond.lays "TorsionDesk$Cubic" "TorsionDesk$Cubic" "constant" "J") ∈ zB := zB1 (List.mem_append_left _ (List.mem_of_getElem? (i := 39) rfl)) rfl
theorem zw_41 : (Jvm.Cond.lays "TorsionDesk$Cubic" "TorsionDesk$Cubic" "discriminant" "J") ∈ zB := zB1 (List.mem_append_left _ (List.mem_of_getElem? (i := 41) rfl)) rfl
theorem zw_43 : (Jvm.Cond.laysFinal "TorsionDesk$Cubic" "TorsionDesk$Cubic" "rootCounts" "[I") ∈ zB := zB1 (List.mem_append_left _ (List.mem_of_getElem? (i := 43) rfl)) rfl
theorem zw_46 : (Jvm.Cond.arrayClass Jvm.ClassFile.FieldType.int) ∈ zB := zB1 (List.mem_append_left _ (List.mem_of_getElem? (i := 46) rfl)) rfl
theorem zw_47 : (Jvm.Cond.classLink "TorsionDesk" (16 : Nat) "TorsionDesk$SquareDivisors") ∈ zB := zB1 (List.mem_append_left _ (List.mem_of_getElem? (i := 47) rfl)) rfl
theorem zw_48 : (Jvm.Cond.instantiable "TorsionDesk$SquareDivisors" (3 : Nat)) ∈ zB := zB1 (List.mem_append_left _ (List.mem_of_getElem? (i := 48) rfl)) rfl
theorem zw_50 : (Jvm.Cond.instanceMethod ({ cls := "TorsionDesk$SquareDivisors", name := "<init>", desc := "()V" } : Jvm.MethodName)) ∈ zB := zB1 (List.mem_append_left _ (List.mem_of_getElem? (i := 50) rfl)) rfl
theorem zw_51 : (Jvm.Cond.code ({ cls := "TorsionDesk$SquareDivisors", name := "<init>", desc := "()V" } : Jvm.MethodName) prog_4_method_1_code (1 : Nat) (Option.none : Option Jvm.ClassFile.FieldType)) ∈ zB := zB1 (List.mem_append_left _ (List.mem_of_getElem? (i := 51) rfl)) rfl
theorem zw_52 : (Jvm.Cond.methodLink "TorsionDesk$SquareDivisors" (3 : Nat) ({ cls := "java/lang/Object", name := "<init>", desc := "()V" } : Jvm.MethodName)) ∈ zB := zB1 (List.mem_append_left _ (List.mem_of_getElem? (i := 52) rfl)) rfl
theorem zw_53 : (Jvm.Cond.fieldLink "TorsionDesk$SquareDivisors" (11 : Nat) "TorsionDesk$SquareDivisors" "row" "[I") ∈ zB := zB1 (List.mem_append_left _ (List.mem_of_getElem? (i := 53) rfl)) rfl
theorem zw_54 : (Jvm.Cond.fieldLink "TorsionDesk" (81 : Nat) "TorsionDesk$SquareDivisors" "row" "[I") ∈ zB := zB1 (List.mem_append_left _ (List.mem_of_getElem? (i := 54) rfl)) rfl
theorem zw_55 : (Jvm.Cond.fieldLink "TorsionDesk$SquareDivisors" (29 : Nat) "TorsionDesk$SquareDivisors" "size" "I") ∈ zB := zB1 (List.mem_append_left _ (List.mem_of_getElem? (i := 55) rfl)) rfl
theorem zw_56 : (Jvm.Cond.fieldLink "TorsionDesk" (80 : Nat) "TorsionDesk$SquareDivisors" "size" "I") ∈ zB := zB1 (List.mem_append_left _ (List.mem_of_getElem? (i := 56) rfl)) rfl
theorem zw_57 : (Jvm.Cond.fieldLink "TorsionDesk$SquareDivisors" (25 : Nat) "TorsionDesk$SquareDivisors" "largestSquare" "J") ∈ zB := zB1 (List.mem_append_left _ (List.mem_of_getElem? (i := 57) rfl)) rfl
theorem zw_58 : (Jvm.Cond.fieldLink "TorsionDesk$FinitePoints" (46 : Nat) "TorsionDesk$SquareDivisors" "largestSquare" "J") ∈ zB := zB1 (List.mem_append_left _ (List.mem_of_getElem? (i := 58) rfl)) rfl
theorem zw_59 : (Jvm.Cond.laysFinal "TorsionDesk$SquareDivisors" "TorsionDesk$SquareDivisors" "row" "[I") ∈ zB := zB1 (List.mem_append_left _ (List.mem_of_getElem? (i := 59) rfl)) rfl
theorem zw_61 : (Jvm.Cond.lays "TorsionDesk$SquareDivisors" "TorsionDesk$SquareDivisors" "size" "I") ∈ zB := zB1 (List.mem_append_left _ (List.mem_of_getElem? (i := 61) rfl)) rfl
theorem zw_63 : (Jvm.Cond.lays "TorsionDesk$SquareDivisors" "TorsionDesk$SquareDivisors" "largestSquare" "J") ∈ zB := zB1 (List.mem_append_left _ (List.mem_of_getElem? (i := 63) rfl)) rfl
theorem zw_66 : (Jvm.Cond.classLink "TorsionDesk" (23 : Nat) "TorsionDesk$FinitePoints") ∈ zB := zB1 (List.mem_append_left _ (List.mem_of_getElem? (i := 66) rfl)) rfl
theorem zw_67 : (Jvm.Cond.instantiable "TorsionDesk$FinitePoints" (4 : Nat)) ∈ zB := zB1 (List.mem_append_left _ (List.mem_of_getElem? (i := 67) rfl)) rfl
theorem zw_69 : (Jvm.Cond.instanceMethod ({ cls := "TorsionDesk$FinitePoints", name := "<init>", desc := "()V" } : Jvm.MethodName)) ∈ zB := zB1 (List.mem_append_left _ (List.mem_of_getElem? (i := 69) rfl)) rfl
theorem zw_70 : (Jvm.Cond.code ({ cls := "TorsionDesk$FinitePoints", name := "<init>", desc := "()V" } : Jvm.MethodName) prog_3_method_1_code (1 : Nat) (Option.none : Option Jvm.ClassFile.FieldType)) ∈ zB := zB1 (List.mem_append_left _ (List.mem_of_getElem? (i := 70) rfl)) rfl
theorem zw_71 : (Jvm.Cond.methodLink "TorsionDesk$FinitePoints" (3 : Nat) ({ cls := "java/lang/Object", name := "<init>", desc := "()V" } : Jvm.MethodName)) ∈ zB := zB1 (List.mem_append_left _ (List.mem_of_getElem? (i := 71) rfl)) rfl
theorem zw_72 : (Jvm.Cond.fieldLink "TorsionDesk$FinitePoints" (11 : Nat) "TorsionDesk$FinitePoints" "xs" "[I") ∈ zB := zB1 (List.mem_append_left _ (List.mem_of_getElem? (i := 72) rfl)) rfl
theorem zw_73 : (Jvm.Cond.fieldLink "TorsionDesk" (88 : Nat) "TorsionDesk$FinitePoints" "xs" "[I") ∈ zB := zB1 (List.mem_append_left _ (List.mem_of_getElem? (i := 73) rfl)) rfl
theorem zw_74 : (Jvm.Cond.fieldLink "TorsionDesk$FinitePoints" (15 : Nat) "TorsionDesk$FinitePoints" "ys" "[I") ∈ zB := zB1 (List.mem_append_left _ (List.mem_of_getElem? (i := 74) rfl)) rfl
theorem zw_75 : (Jvm.Cond.fieldLink "TorsionDesk" (91 : Nat) "TorsionDesk$FinitePoints" "ys" "[I") ∈ zB := zB1 (List.mem_append_left _ (List.mem_of_getElem? (i := 75) rfl)) rfl
theorem zw_76 : (Jvm.Cond.fieldLink "TorsionDesk$FinitePoints" (18 : Nat) "TorsionDesk$FinitePoints" "orders" "[I") ∈ zB := zB1 (List.mem_append_left _ (List.mem_of_getElem? (i := 76) rfl)) rfl
theorem zw_77 : (Jvm.Cond.fieldLink "TorsionDesk" (94 : Nat) "TorsionDesk$FinitePoints" "orders" "[I") ∈ zB := zB1 (List.mem_append_left _ (List.mem_of_getElem? (i := 77) rfl)) rfl
theorem zw_78 : (Jvm.Cond.fieldLink "TorsionDesk$FinitePoints" (21 : Nat) "TorsionDesk$FinitePoints" "size" "I") ∈ zB := zB1 (List.mem_append_left _ (List.mem_of_getElem? (i := 78) rfl)) rfl
theorem zw_79 : (Jvm.Cond.fieldLink "TorsionDesk" (77 : Nat) "TorsionDesk$FinitePoints" "size" "I") ∈ zB := zB1 (List.mem_append_left _ (List.mem_of_getElem? (i := 79) rfl)) rfl
theorem zw_80 : (Jvm.Cond.laysFinal "TorsionDesk$FinitePoints" "TorsionDesk$FinitePoints" "xs" "[I") ∈ zB := zB1 (List.mem_append_left _ (List.mem_of_getElem? (i := 80) rfl)) rfl
theorem zw_82 : (Jvm.Cond.laysFinal "TorsionDesk$FinitePoints" "TorsionDesk$FinitePoints" "ys" "[I") ∈ zB := zB1 (List.mem_append_left _ (List.mem_of_getElem? (i := 82) rfl)) rfl
theorem zw_84 : (Jvm.Cond.laysFinal "TorsionDesk$FinitePoints" "TorsionDesk$FinitePoints" "orders" "[I") ∈ zB := zB1 (List.mem_append_left _ (List.mem_of_getElem? (i := 84) rfl)) rfl
theorem zw_86 : (Jvm.Cond.lays "TorsionDesk$FinitePoints" "TorsionDesk$FinitePoints" "size" "I") ∈ zB := zB1 (List.mem_append_left _ (List.mem_of_getElem? (i := 86) rfl)) rfl
theorem zw_89 : (Jvm.Cond.fieldLink "TorsionDesk" (10 : Nat) "TorsionDesk" "cubic" "LTorsionDesk$Cubic;") ∈ zB := zB1 (List.mem_append_left _ (List.mem_of_getElem? (i := 89) rfl)) rfl
theorem zw_90 : (Jvm.Cond.fieldLink "TorsionDesk" (19 : Nat) "TorsionDesk" "divisors" "LTorsionDesk$SquareDivisors;") ∈ zB := zB1 (List.mem_append_left _ (List.mem_of_getElem? (i := 90) rfl)) rfl
theorem zw_91 : (Jvm.Cond.fieldLink "TorsionDesk" (26 : Nat) "TorsionDesk" "finite" "LTorsionDesk$FinitePoints;") ∈ zB := zB1 (List.mem_append_left _ (List.mem_of_getElem? (i := 91) rfl)) rfl
theorem zw_92 : (Jvm.Cond.fieldLink "TorsionDesk" (73 : Nat) "TorsionDesk" "hasCurve" "Z") ∈ zB := zB1 (List.mem_append_left _ (List.mem_of_getElem? (i := 92) rfl)) rfl
theorem zw_93 : (Jvm.Cond.fieldLink "TorsionDesk" (50 : Nat) "TorsionDesk" "a" "I") ∈ zB := zB1 (List.mem_append_left _ (List.mem_of_getElem? (i := 93) rfl)) rfl
theorem zw_94 : (Jvm.Cond.fieldLink "TorsionDesk" (54 : Nat) "TorsionDesk" "c" "I") ∈ zB := zB1 (List.mem_append_left _ (List.mem_of_getElem? (i := 94) rfl)) rfl
theorem zw_95 : (Jvm.Cond.laysFinal "TorsionDesk" "TorsionDesk" "cubic" "LTorsionDesk$Cubic;") ∈ zB := zB1 (List.mem_append_left _ (List.mem_of_getElem? (i := 95) rfl)) rfl
theorem zw_97 : (Jvm.Cond.laysFinal "TorsionDesk" "TorsionDesk" "divisors" "LTorsionDesk$SquareDivisors;") ∈ zB := zB1 (List.mem_append_left _ (List.mem_of_getElem? (i := 97) rfl)) rfl
theorem zw_99 : (Jvm.Cond.laysFinal "TorsionDesk" "TorsionDesk" "finite" "LTorsionDesk$FinitePoints;") ∈ zB := zB1 (List.mem_append_left _ (List.mem_of_getElem? (i := 99) rfl)) rfl
theorem zw_101 : (Jvm.Cond.lays "TorsionDesk" "TorsionDesk" "hasCurve" "Z") ∈ zB := zB1 (List.mem_append_left _ (List.mem_of_getElem? (i := 101) rfl)) rfl
theorem zw_103 : (Jvm.Cond.lays "TorsionDesk" "TorsionDesk" "a" "I") ∈ zB := zB1 (List.mem_append_left _ (List.mem_of_getElem? (i := 103) rfl)) rfl
theorem zw_105 : (Jvm.Cond.lays "TorsionDesk" "TorsionDesk" "c" "I") ∈ zB := zB1 (List.mem_append_left _ (List.mem_of_getElem? (i := 105) rfl)) rfl
theorem zw_108 : (Jvm.Cond.methodLink "TorsionDeskLaw" (37 : Nat) ({ cls := "TorsionDesk", name := "discriminant", desc := "()J" } : Jvm.MethodName)) ∈ zB := zB1 (List.mem_append_left _ (List.mem_of_getElem? (i := 108) rfl)) rfl
theorem zw_109 : (Jvm.Cond.instanceMethod ({ cls := "TorsionDesk", name := "discriminant", desc := "()J" } : Jvm.MethodName)) ∈ zB := zB1 (List.mem_append_left _ (List.mem_of_getElem? (i := 109) rfl)) rfl
theorem zw_110 : (Jvm.Cond.selects "TorsionDesk" ({ cls := "TorsionDesk", name := "discriminant", desc := "()J" } : Jvm.MethodName) ({ cls := "TorsionDesk", name := "discriminant", desc := "()J" } : Jvm.MethodName)) ∈ zB := zB1 (List.mem_append_left _ (List.mem_of_getElem? (i := 110) rfl)) rfl
theorem zw_111 : (Jvm.Cond.code ({ cls := "TorsionDesk", name := "discriminant", desc := "()J" } : Jvm.MethodName) prog_1_method_3_code (1 : Nat) (Option.some Jvm.ClassFile.FieldType.long)) ∈ zB := zB1 (List.mem_append_left _ (List.mem_of_getElem? (i := 111) rfl)) rfl
theorem zw_112 : (Jvm.Cond.methodLink "TorsionDeskLaw" (42 : Nat) ({ cls := "TorsionDesk", name := "candidate", desc := "(I)I" } : Jvm.MethodName)) ∈ zB := zB1 (List.mem_append_left _ (List.mem_of_getElem? (i := 112) rfl)) rfl
theorem zw_113 : (Jvm.Cond.instanceMethod ({ cls := "TorsionDesk", name := "candidate", desc := "(I)I" } : Jvm.MethodName)) ∈ zB := zB1 (List.mem_append_left _ (List.mem_of_getElem? (i := 113) rfl)) rfl
theorem zw_114 : (Jvm.Cond.selects "TorsionDesk" ({ cls := "TorsionDesk", name := "candidate", desc := "(I)I" } : Jvm.MethodName) ({ cls := "TorsionDesk", name := "candidate", desc := "(I)I" } : Jvm.MethodName)) ∈ zB := zB1 (List.mem_append_left _ (List.mem_of_getElem? (i := 114) rfl)) rfl
theorem zw_115 : (Jvm.Cond.code ({ cls := "TorsionDesk", name := "candidate", desc := "(I)I" } : Jvm.MethodName) prog_1_method_4_code (2 : Nat) (Option.some Jvm.ClassFile.FieldType.int)) ∈ zB := zB1 (List.mem_append_left _ (List.mem_of_getElem? (i := 115) rfl)) rfl
theorem zw_116 : (Jvm.Cond.methodLink "TorsionDeskLaw" (46 : Nat) ({ cls := "TorsionDesk", name := "points", desc := "()I" } : Jvm.MethodName)) ∈ zB := zB1 (List.mem_append_left _ (List.mem_of_getElem? (i := 116) rfl)) rfl
theorem zw_117 : (Jvm.Cond.instanceMethod ({ cls := "TorsionDesk", name := "points", desc := "()I" } : Jvm.MethodName)) ∈ zB := zB1 (List.mem_append_left _ (List.mem_of_getElem? (i := 117) rfl)) rfl
theorem zw_118 : (Jvm.Cond.selects "TorsionDesk" ({ cls := "TorsionDesk", name := "points", desc := "()I" } : Jvm.MethodName) ({ cls := "TorsionDesk", name := "points", desc := "()I" } : Jvm.MethodName)) ∈ zB := zB1 (List.mem_append_left _ (List.mem_of_getElem? (i := 118) rfl)) rfl
theorem zw_119 : (Jvm.Cond.code ({ cls := "TorsionDesk", name := "points", desc := "()I" } : Jvm.MethodName) prog_1_method_5_code (1 : Nat) (Option.some Jvm.ClassFile.FieldType.int)) ∈ zB := zB1 (List.mem_append_left _ (List.mem_of_getElem? (i := 119) rfl)) rfl
theorem zw_120 : (Jvm.Cond.methodLink "TorsionDeskLaw" (50 : Nat) ({ cls := "TorsionDesk", name := "point", desc := "(II)I" } : Jvm.MethodName)) ∈ zB := zB1 (List.mem_append_left _ (List.mem_of_getElem? (i := 120) rfl)) rfl
theorem zw_121 : (Jvm.Cond.instanceMethod ({ cls := "TorsionDesk", name := "point", desc := "(II)I" } : Jvm.MethodName)) ∈ zB := zB1 (List.mem_append_left _ (List.mem_of_getElem? (i := 121) rfl)) rfl
theorem zw_122 : (Jvm.Cond.selects "TorsionDesk" ({ cls := "TorsionDesk", name := "point", desc := "(II)I" } : Jvm.MethodName) ({ cls := "TorsionDesk", name := "point", desc := "(II)I" } : Jvm.MethodName)) ∈ zB := zB1 (List.mem_append_left _ (List.mem_of_getElem? (i := 122) rfl)) rfl
theorem zw_123 : (Jvm.Cond.code ({ cls := "TorsionDesk", name := "point", desc := "(II)I" } : Jvm.MethodName) prog_1_method_6_code (6 : Nat) (Option.some Jvm.ClassFile.FieldType.int)) ∈ zB := zB1 (List.mem_append_left _ (List.mem_of_getElem? (i := 123) rfl)) rfl
theorem zw_124 : (Jvm.Cond.methodLink "TorsionDesk" (85 : Nat) ({ cls := "TorsionDesk$FinitePoints", name := "has", desc := "(I)Z" } : Jvm.MethodName)) ∈ zB := zB1 (List.mem_append_left _ (List.mem_of_getElem? (i := 124) rfl)) rfl
theorem zw_125 : (Jvm.Cond.instanceMethod ({ cls := "TorsionDesk$FinitePoints", name := "has", desc := "(I)Z" } : Jvm.MethodName)) ∈ zB := zB1 (List.mem_append_left _ (List.mem_of_getElem? (i := 125) rfl)) rfl
theorem zw_126 : (Jvm.Cond.selects "TorsionDesk$FinitePoints" ({ cls := "TorsionDesk$FinitePoints", name := "has", desc := "(I)Z" } : Jvm.MethodName) ({ cls := "TorsionDesk$FinitePoints", name := "has", desc := "(I)Z" } : Jvm.MethodName)) ∈ zB := zB1 (List.mem_append_left _ (List.mem_of_getElem? (i := 126) rfl)) rfl
theorem zw_127 : (Jvm.Cond.code ({ cls := "TorsionDesk$FinitePoints", name := "has", desc := "(I)Z" } : Jvm.MethodName) prog_3_method_2_code (2 : Nat) (Option.some Jvm.ClassFile.FieldType.boolean)) ∈ zB := zB1 (List.mem_append_left _ (List.mem_of_getElem? (i := 127) rfl)) rfl
theorem zw_128 : (Jvm.Cond.methodLink "TorsionDesk" (97 : Nat) ({ cls := "TorsionDesk", name := "sharedTwos", desc := "(II)I" } : Jvm.MethodName)) ∈ zB := zB1 (List.mem_append_left _ (List.mem_of_getElem? (i := 128) rfl)) rfl
theorem zw_129 : (Jvm.Cond.static ({ cls := "TorsionDesk", name := "sharedTwos", desc := "(II)I" } : Jvm.MethodName)) ∈ zB := zB1 (List.mem_append_left _ (List.mem_of_getElem? (i := 129) rfl)) rfl
theorem zw_130 : (Jvm.Cond.code ({ cls := "TorsionDesk", name := "sharedTwos", desc := "(II)I" } : Jvm.MethodName) prog_1_method_15_code (3 : Nat) (Option.some Jvm.ClassFile.FieldType.int)) ∈ zB := zB1 (List.mem_append_left _ (List.mem_of_getElem? (i := 130) rfl)) rfl
theorem zw_131 : (Jvm.Cond.methodLink "TorsionDeskLaw" (55 : Nat) ({ cls := "TorsionDesk", name := "find", desc := "(II)I" } : Jvm.MethodName)) ∈ zB := zB1 (List.mem_append_left _ (List.mem_of_getElem? (i := 131) rfl)) rfl
theorem zw_132 : (Jvm.Cond.instanceMethod ({ cls := "TorsionDesk", name := "find", desc := "(II)I" } : Jvm.MethodName)) ∈ zB := zB1 (List.mem_append_left _ (List.mem_of_getElem? (i := 132) rfl)) rfl
theorem zw_133 : (Jvm.Cond.selects "TorsionDesk" ({ cls := "TorsionDesk", name := "find", desc := "(II)I" } : Jvm.MethodName) ({ cls := "TorsionDesk", name := "find", desc := "(II)I" } : Jvm.MethodName)) ∈ zB := zB1 (List.mem_append_left _ (List.mem_of_getElem? (i := 133) rfl)) rfl
theorem zw_134 : (Jvm.Cond.code ({ cls := "TorsionDesk", name := "find", desc := "(II)I" } : Jvm.MethodName) prog_1_method_7_code (3 : Nat) (Option.some Jvm.ClassFile.FieldType.int)) ∈ zB := zB1 (List.mem_append_left _ (List.mem_of_getElem? (i := 134) rfl)) rfl
theorem zw_135 : (Jvm.Cond.methodLink "TorsionDesk" (101 : Nat) ({ cls := "TorsionDesk$FinitePoints", name := "numberOf", desc := "(JJ)I" } : Jvm.MethodName)) ∈ zB := zB1 (List.mem_append_left _ (List.mem_of_getElem? (i := 135) rfl)) rfl
theorem zw_136 : (Jvm.Cond.instanceMethod ({ cls := "TorsionDesk$FinitePoints", name := "numberOf", desc := "(JJ)I" } : Jvm.MethodName)) ∈ zB := zB1 (List.mem_append_left _ (List.mem_of_getElem? (i := 136) rfl)) rfl
theorem zw_137 : (Jvm.Cond.selects "TorsionDesk$FinitePoints" ({ cls := "TorsionDesk$FinitePoints", name := "numberOf", desc := "(JJ)I" } : Jvm.MethodName) ({ cls := "TorsionDesk$FinitePoints", name := "numberOf", desc := "(JJ)I" } : Jvm.MethodName)) ∈ zB := zB1 (List.mem_append_left _ (List.mem_of_getElem? (i := 137) rfl)) rfl
theorem zw_138 : (Jvm.Cond.code ({ cls := "TorsionDesk$FinitePoints", name := "numberOf", desc := "(JJ)I" } : Jvm.MethodName) prog_3_method_8_code (6 : Nat) (Option.some Jvm.ClassFile.FieldType.int)) ∈ zB := zB1 (List.mem_append_left _ (List.mem_of_getElem? (i := 138) rfl)) rfl
theorem zw_139 : (Jvm.Cond.methodLink "TorsionDeskLaw" (59 : Nat) ({ cls := "TorsionDesk", name := "sum", desc := "(II)I" } : Jvm.MethodName)) ∈ zB := zB1 (List.mem_append_left _ (List.mem_of_getElem? (i := 139) rfl)) rfl
theorem zw_140 : (Jvm.Cond.instanceMethod ({ cls := "TorsionDesk", name := "sum", desc := "(II)I" } : Jvm.MethodName)) ∈ zB := zB1 (List.mem_append_left _ (List.mem_of_getElem? (i := 140) rfl)) rfl
theorem zw_141 : (Jvm.Cond.selects "TorsionDesk" ({ cls := "TorsionDesk", name := "sum", desc := "(II)I" } : Jvm.MethodName) ({ cls := "TorsionDesk", name := "sum", desc := "(II)I" } : Jvm.MethodName)) ∈ zB := zB1 (List.mem_append_left _ (List.mem_of_getElem? (i := 141) rfl)) rfl
theorem zw_142 : (Jvm.Cond.code ({ cls := "TorsionDesk", name := "sum", desc := "(II)I" } : Jvm.MethodName) prog_1_method_8_code (3 : Nat) (Option.some Jvm.ClassFile.FieldType.int)) ∈ zB := zB1 (List.mem_append_left _ (List.mem_of_getElem? (i := 142) rfl)) rfl
theorem zw_143 : (Jvm.Cond.methodLink "TorsionDesk" (105 : Nat) ({ cls := "TorsionDesk$FinitePoints", name := "added", desc := "(LTorsionDesk$Cubic;II)I" } : Jvm.MethodName)) ∈ zB := zB1 (List.mem_append_left _ (List.mem_of_getElem? (i := 143) rfl)) rfl
theorem zw_144 : (Jvm.Cond.instanceMethod ({ cls := "TorsionDesk$FinitePoints", name := "added", desc := "(LTorsionDesk$Cubic;II)I" } : Jvm.MethodName)) ∈ zB := zB1 (List.mem_append_left _ (List.mem_of_getElem? (i := 144) rfl)) rfl
theorem zw_145 : (Jvm.Cond.selects "TorsionDesk$FinitePoints" ({ cls := "TorsionDesk$FinitePoints", name := "added", desc := "(LTorsionDesk$Cubic;II)I" } : Jvm.MethodName) ({ cls := "TorsionDesk$FinitePoints", name := "added", desc := "(LTorsionDesk$Cubic;II)I" } : Jvm.MethodName)) ∈ zB := zB1 (List.mem_append_left _ (List.mem_of_getElem? (i := 145) rfl)) rfl
theorem zw_146 : (Jvm.Cond.code ({ cls := "TorsionDesk$FinitePoints", name := "added", desc := "(LTorsionDesk$Cubic;II)I" } : Jvm.MethodName) prog_3_method_9_code (17 : Nat) (Option.some Jvm.ClassFile.FieldType.int)) ∈ zB := zB1 (List.mem_append_left _ (List.mem_of_getElem? (i := 146) rfl)) rfl
theorem zw_147 : (Jvm.Cond.methodLink "TorsionDesk$FinitePoints" (60 : Nat) ({ cls := "TorsionDesk$FinitePoints", name := "has", desc := "(I)Z" } : Jvm.MethodName)) ∈ zB := zB1 (List.mem_append_left _ (List.mem_of_getElem? (i := 147) rfl)) rfl
theorem zw_148 : (Jvm.Cond.methodLink "TorsionDesk$FinitePoints" (64 : Nat) ({ cls := "TorsionDesk$Cubic", name := "steepnessAt", desc := "(J)J" } : Jvm.MethodName)) ∈ zB := zB1 (List.mem_append_left _ (List.mem_of_getElem? (i := 148) rfl)) rfl
theorem zw_149 : (Jvm.Cond.instanceMethod ({ cls := "TorsionDesk$Cubic", name := "steepnessAt", desc := "(J)J" } : Jvm.MethodName)) ∈ zB := zB1 (List.mem_append_left _ (List.mem_of_getElem? (i := 149) rfl)) rfl
theorem zw_150 : (Jvm.Cond.selects "TorsionDesk$Cubic" ({ cls := "TorsionDesk$Cubic", name := "steepnessAt", desc := "(J)J" } : Jvm.MethodName) ({ cls := "TorsionDesk$Cubic", name := "steepnessAt", desc := "(J)J" } : Jvm.MethodName)) ∈ zB := zB1 (List.mem_append_left _ (List.mem_of_getElem? (i := 150) rfl)) rfl
theorem zw_151 : (Jvm.Cond.code ({ cls := "TorsionDesk$Cubic", name := "steepnessAt", desc := "(J)J" } : Jvm.MethodName) prog_2_method_5_code (3 : Nat) (Option.some Jvm.ClassFile.FieldType.long)) ∈ zB := zB1 (List.mem_append_left _ (List.mem_of_getElem? (i := 151) rfl)) rfl
theorem zw_152 : (Jvm.Cond.constantLong "TorsionDesk$Cubic" (38 : Nat) (3 : Int64)) ∈ zB := zB1 (List.mem_append_left _ (List.mem_of_getElem? (i := 152) rfl)) rfl
theorem zw_153 : (Jvm.Cond.constantLong "TorsionDesk$Cubic" (40 : Nat) (2 : Int64)) ∈ zB := zB1 (List.mem_append_left _ (List.mem_of_getElem? (i := 153) rfl)) rfl
theorem zw_154 : (Jvm.Cond.constantLong "TorsionDesk$FinitePoints" (67 : Nat) (2 : Int64)) ∈ zB := zB1 (List.mem_append_left _ (List.mem_of_getElem? (i := 154) rfl)) rfl
theorem zw_155 : (Jvm.Cond.methodLink "TorsionDesk$FinitePoints" (72 : Nat) ({ cls := "TorsionDesk$FinitePoints", name := "numberOf", desc := "(JJ)I" } : Jvm.MethodName)) ∈ zB := zB1 (List.mem_append_left _ (List.mem_of_getElem? (i := 155) rfl)) rfl
theorem zw_156 : (Jvm.Cond.methodLink "TorsionDeskLaw" (63 : Nat) ({ cls := "TorsionDesk", name := "times", desc := "(II)I" } : Jvm.MethodName)) ∈ zB := zB1 (List.mem_append_left _ (List.mem_of_getElem? (i := 156) rfl)) rfl
theorem zw_157 : (Jvm.Cond.instanceMethod ({ cls := "TorsionDesk", name := "times", desc := "(II)I" } : Jvm.MethodName)) ∈ zB := zB1 (List.mem_append_left _ (List.mem_of_getElem? (i := 157) rfl)) rfl
theorem zw_158 : (Jvm.Cond.selects "TorsionDesk" ({ cls := "TorsionDesk", name := "times", desc := "(II)I" } : Jvm.MethodName) ({ cls := "TorsionDesk", name := "times", desc := "(II)I" } : Jvm.MethodName)) ∈ zB := zB1 (List.mem_append_left _ (List.mem_of_getElem? (i := 158) rfl)) rfl
theorem zw_159 : (Jvm.Cond.code ({ cls := "TorsionDesk", name := "times", desc := "(II)I" } : Jvm.MethodName) prog_1_method_9_code (3 : Nat) (Option.some Jvm.ClassFile.FieldType.int)) ∈ zB := zB1 (List.mem_append_left _ (List.mem_of_getElem? (i := 159) rfl)) rfl
theorem zw_160 : (Jvm.Cond.methodLink "TorsionDesk" (109 : Nat) ({ cls := "TorsionDesk$FinitePoints", name := "multiple", desc := "(LTorsionDesk$Cubic;II)I" } : Jvm.MethodName)) ∈ zB := zB1 (List.mem_append_left _ (List.mem_of_getElem? (i := 160) rfl)) rfl
theorem zw_161 : (Jvm.Cond.instanceMethod ({ cls := "TorsionDesk$FinitePoints", name := "multiple", desc := "(LTorsionDesk$Cubic;II)I" } : Jvm.MethodName)) ∈ zB := zB1 (List.mem_append_left _ (List.mem_of_getElem? (i := 161) rfl)) rfl
theorem zw_162 : (Jvm.Cond.selects "TorsionDesk$FinitePoints" ({ cls := "TorsionDesk$FinitePoints", name := "multiple", desc := "(LTorsionDesk$Cubic;II)I" } : Jvm.MethodName) ({ cls := "TorsionDesk$FinitePoints", name := "multiple", desc := "(LTorsionDesk$Cubic;II)I" } : Jvm.MethodName)) ∈ zB := zB1 (List.mem_append_left _ (List.mem_of_getElem? (i := 162) rfl)) rfl
theorem zw_163 : (Jvm.Cond.code ({ cls := "TorsionDesk$FinitePoints", name := "multiple", desc := "(LTorsionDesk$Cubic;II)I" } : Jvm.MethodName) prog_3_method_10_code (8 : Nat) (Option.some Jvm.ClassFile.FieldType.int)) ∈ zB := zB1 (List.mem_append_left _ (List.mem_of_getElem? (i := 163) rfl)) rfl
theorem zw_164 : (Jvm.Cond.methodLink "TorsionDesk$FinitePoints" (76 : Nat) ({ cls := "java/lang/Math", name := "floorMod", desc := "(II)I" } : Jvm.MethodName)) ∈ zB := zB1 (List.mem_append_left _ (List.mem_of_getElem? (i := 164) rfl)) rfl
theorem zw_165 : (Jvm.Cond.static ({ cls := "java/lang/Math", name := "floorMod", desc := "(II)I" } : Jvm.MethodName)) ∈ zB := zB1 (List.mem_append_left _ (List.mem_of_getElem? (i := 165) rfl)) rfl
theorem zw_166 : (Jvm.Cond.code ({ cls := "java/lang/Math", name := "floorMod", desc := "(II)I" } : Jvm.MethodName) prog_11_method_50_code (3 : Nat) (Option.some Jvm.ClassFile.FieldType.int)) ∈ zB := zB1 (List.mem_append_left _ (List.mem_of_getElem? (i := 166) rfl)) rfl
theorem zw_167 : (Jvm.Cond.methodLink "TorsionDesk$FinitePoints" (56 : Nat) ({ cls := "TorsionDesk$FinitePoints", name := "added", desc := "(LTorsionDesk$Cubic;II)I" } : Jvm.MethodName)) ∈ zB := zB1 (List.mem_append_left _ (List.mem_of_getElem? (i := 167) rfl)) rfl
theorem zw_168 : (Jvm.Cond.methodLink "TorsionDeskLaw" (67 : Nat) ({ cls := "TorsionDesk", name := "structure", desc := "(I)I" } : Jvm.MethodName)) ∈ zB := zB1 (List.mem_append_left _ (List.mem_of_getElem? (i := 168) rfl)) rfl
theorem zw_169 : (Jvm.Cond.instanceMethod ({ cls := "TorsionDesk", name := "structure", desc := "(I)I" } : Jvm.MethodName)) ∈ zB := zB1 (List.mem_append_left _ (List.mem_of_getElem? (i := 169) rfl)) rfl
theorem zw_170 : (Jvm.Cond.selects "TorsionDesk" ({ cls := "TorsionDesk", name := "structure", desc := "(I)I" } : Jvm.MethodName) ({ cls := "TorsionDesk", name := "structure", desc := "(I)I" } : Jvm.MethodName)) ∈ zB := zB1 (List.mem_append_left _ (List.mem_of_getElem? (i := 170) rfl)) rfl
theorem zw_171 : (Jvm.Cond.code ({ cls := "TorsionDesk", name := "structure", desc := "(I)I" } : Jvm.MethodName) prog_1_method_10_code (2 : Nat) (Option.some Jvm.ClassFile.FieldType.int)) ∈ zB := zB1 (List.mem_append_left _ (List.mem_of_getElem? (i := 171) rfl)) rfl
theorem zw_172 : (Jvm.Cond.methodLink "TorsionDesk" (112 : Nat) ({ cls := "TorsionDesk$FinitePoints", name := "smallerFactor", desc := "()I" } : Jvm.MethodName)) ∈ zB := zB1 (List.mem_append_left _ (List.mem_of_getElem? (i := 172) rfl)) rfl
theorem zw_173 : (Jvm.Cond.instanceMethod ({ cls := "TorsionDesk$FinitePoints", name := "smallerFactor", desc := "()I" } : Jvm.MethodName)) ∈ zB := zB1 (List.mem_append_left _ (List.mem_of_getElem? (i := 173) rfl)) rfl
theorem zw_174 : (Jvm.Cond.selects "TorsionDesk$FinitePoints" ({ cls := "TorsionDesk$FinitePoints", name := "smallerFactor", desc := "()I" } : Jvm.MethodName) ({ cls := "TorsionDesk$FinitePoints", name := "smallerFactor", desc := "()I" } : Jvm.MethodName)) ∈ zB := zB1 (List.mem_append_left _ (List.mem_of_getElem? (i := 174) rfl)) rfl
theorem zw_175 : (Jvm.Cond.code ({ cls := "TorsionDesk$FinitePoints", name := "smallerFactor", desc := "()I" } : Jvm.MethodName) prog_3_method_12_code (2 : Nat) (Option.some Jvm.ClassFile.FieldType.int)) ∈ zB := zB1 (List.mem_append_left _ (List.mem_of_getElem? (i := 175) rfl)) rfl
theorem zw_176 : (Jvm.Cond.methodLink "TorsionDesk$FinitePoints" (85 : Nat) ({ cls := "TorsionDesk$FinitePoints", name := "greatestOrder", desc := "()I" } : Jvm.MethodName)) ∈ zB := zB1 (List.mem_append_left _ (List.mem_of_getElem? (i := 176) rfl)) rfl
theorem zw_177 : (Jvm.Cond.instanceMethod ({ cls := "TorsionDesk$FinitePoints", name := "greatestOrder", desc := "()I" } : Jvm.MethodName)) ∈ zB := zB1 (List.mem_append_left _ (List.mem_of_getElem? (i := 177) rfl)) rfl
theorem zw_178 : (Jvm.Cond.selects "TorsionDesk$FinitePoints" ({ cls := "TorsionDesk$FinitePoints", name := "greatestOrder", desc := "()I" } : Jvm.MethodName) ({ cls := "TorsionDesk$FinitePoints", name := "greatestOrder", desc := "()I" } : Jvm.MethodName)) ∈ zB := zB1 (List.mem_append_left _ (List.mem_of_getElem? (i := 178) rfl)) rfl
theorem zw_179 : (Jvm.Cond.code ({ cls := "TorsionDesk$FinitePoints", name := "greatestOrder", desc := "()I" } : Jvm.MethodName) prog_3_method_11_code (3 : Nat) (Option.some Jvm.ClassFile.FieldType.int)) ∈ zB := zB1 (List.mem_append_left _ (List.mem_of_getElem? (i := 179) rfl)) rfl
theorem zw_180 : (Jvm.Cond.methodLink "TorsionDesk$FinitePoints" (82 : Nat) ({ cls := "java/lang/Math", name := "max", desc := "(II)I" } : Jvm.MethodName)) ∈ zB := zB1 (List.mem_append_left _ (List.mem_of_getElem? (i := 180) rfl)) rfl
theorem zw_181 : (Jvm.Cond.static ({ cls := "java/lang/Math", name := "max", desc := "(II)I" } : Jvm.MethodName)) ∈ zB := zB1 (List.mem_append_left _ (List.mem_of_getElem? (i := 181) rfl)) rfl
theorem zw_182 : (Jvm.Cond.code ({ cls := "java/lang/Math", name := "max", desc := "(II)I" } : Jvm.MethodName) prog_11_method_65_code (2 : Nat) (Option.some Jvm.ClassFile.FieldType.int)) ∈ zB := zB1 (List.mem_append_left _ (List.mem_of_getElem? (i := 182) rfl)) rfl
theorem zw_183 : (Jvm.Cond.methodLink "TorsionDesk" (116 : Nat) ({ cls := "TorsionDesk$FinitePoints", name := "greatestOrder", desc := "()I" } : Jvm.MethodName)) ∈ zB := zB1 (List.mem_append_left _ (List.mem_of_getElem? (i := 183) rfl)) rfl
theorem zw_184 : (Jvm.Cond.methodLink "TorsionDesk" (119 : Nat) ({ cls := "TorsionDesk$FinitePoints", name := "smallerMaker", desc := "(LTorsionDesk$Cubic;)I" } : Jvm.MethodName)) ∈ zB := zB1 (List.mem_append_left _ (List.mem_of_getElem? (i := 184) rfl)) rfl
theorem zw_185 : (Jvm.Cond.instanceMethod ({ cls := "TorsionDesk$FinitePoints", name := "smallerMaker", desc := "(LTorsionDesk$Cubic;)I" } : Jvm.MethodName)) ∈ zB := zB1 (List.mem_append_left _ (List.mem_of_getElem? (i := 185) rfl)) rfl
theorem zw_186 : (Jvm.Cond.selects "TorsionDesk$FinitePoints" ({ cls := "TorsionDesk$FinitePoints", name := "smallerMaker", desc := "(LTorsionDesk$Cubic;)I" } : Jvm.MethodName) ({ cls := "TorsionDesk$FinitePoints", name := "smallerMaker", desc := "(LTorsionDesk$Cubic;)I" } : Jvm.MethodName)) ∈ zB := zB1 (List.mem_append_left _ (List.mem_of_getElem? (i := 186) rfl)) rfl
theorem zw_187 : (Jvm.Cond.code ({ cls := "TorsionDesk$FinitePoints", name := "smallerMaker", desc := "(LTorsionDesk$Cubic;)I" } : Jvm.MethodName) prog_3_method_14_code (5 : Nat) (Option.some Jvm.ClassFile.FieldType.int)) ∈ zB := zB1 (List.mem_append_left _ (List.mem_of_getElem? (i := 187) rfl)) rfl
theorem zw_188 : (Jvm.Cond.methodLink "TorsionDesk$FinitePoints" (89 : Nat) ({ cls := "TorsionDesk$FinitePoints", name := "smallerFactor", desc := "()I" } : Jvm.MethodName)) ∈ zB := zB1 (List.mem_append_left _ (List.mem_of_getElem? (i := 188) rfl)) rfl
theorem zw_189 : (Jvm.Cond.methodLink "TorsionDesk$FinitePoints" (92 : Nat) ({ cls := "TorsionDesk$FinitePoints", name := "greaterMaker", desc := "()I" } : Jvm.MethodName)) ∈ zB := zB1 (List.mem_append_left _ (List.mem_of_getElem? (i := 189) rfl)) rfl
theorem zw_190 : (Jvm.Cond.instanceMethod ({ cls := "TorsionDesk$FinitePoints", name := "greaterMaker", desc := "()I" } : Jvm.MethodName)) ∈ zB := zB1 (List.mem_append_left _ (List.mem_of_getElem? (i := 190) rfl)) rfl
theorem zw_191 : (Jvm.Cond.selects "TorsionDesk$FinitePoints" ({ cls := "TorsionDesk$FinitePoints", name := "greaterMaker", desc := "()I" } : Jvm.MethodName) ({ cls := "TorsionDesk$FinitePoints", name := "greaterMaker", desc := "()I" } : Jvm.MethodName)) ∈ zB := zB1 (List.mem_append_left _ (List.mem_of_getElem? (i := 191) rfl)) rfl
theorem zw_192 : (Jvm.Cond.code ({ cls := "TorsionDesk$FinitePoints", name := "greaterMaker", desc := "()I" } : Jvm.MethodName) prog_3_method_13_code (3 : Nat) (Option.some Jvm.ClassFile.FieldType.int)) ∈ zB := zB1 (List.mem_append_left _ (List.mem_of_getElem? (i := 192) rfl)) rfl
theorem zw_193 : (Jvm.Cond.methodLink "TorsionDesk$FinitePoints" (95 : Nat) ({ cls := "TorsionDesk$FinitePoints", name := "meetsOnlyInZero", desc := "(LTorsionDesk$Cubic;II)Z" } : Jvm.MethodName)) ∈ zB := zB1 (List.mem_append_left _ (List.mem_of_getElem? (i := 193) rfl)) rfl
theorem zw_195 : (Jvm.Cond.instanceMethod ({ cls := "TorsionDesk$FinitePoints", name := "meetsOnlyInZero", desc := "(LTorsionDesk$Cubic;II)Z" } : Jvm.MethodName)) ∈ zB := zB1 (List.mem_append_left _ (List.mem_of_getElem? (i := 195) rfl)) rfl
theorem zw_196 : (Jvm.Cond.code ({ cls := "TorsionDesk$FinitePoints", name := "meetsOnlyInZero", desc := "(LTorsionDesk$Cubic;II)Z" } : Jvm.MethodName) prog_3_method_15_code (5 : Nat) (Option.some Jvm.ClassFile.FieldType.boolean)) ∈ zB := zB1 (List.mem_append_left _ (List.mem_of_getElem? (i := 196) rfl)) rfl
theorem zw_197 : (Jvm.Cond.methodLink "TorsionDesk$FinitePoints" (99 : Nat) ({ cls := "TorsionDesk$FinitePoints", name := "multiple", desc := "(LTorsionDesk$Cubic;II)I" } : Jvm.MethodName)) ∈ zB := zB1 (List.mem_append_left _ (List.mem_of_getElem? (i := 197) rfl)) rfl
theorem zw_198 : (Jvm.Cond.methodLink "TorsionDesk$FinitePoints" (102 : Nat) ({ cls := "TorsionDesk$FinitePoints", name := "isMultiple", desc := "(LTorsionDesk$Cubic;II)Z" } : Jvm.MethodName)) ∈ zB := zB1 (List.mem_append_left _ (List.mem_of_getElem? (i := 198) rfl)) rfl
theorem zw_200 : (Jvm.Cond.instanceMethod ({ cls := "TorsionDesk$FinitePoints", name := "isMultiple", desc := "(LTorsionDesk$Cubic;II)Z" } : Jvm.MethodName)) ∈ zB := zB1 (List.mem_append_left _ (List.mem_of_getElem? (i := 200) rfl)) rfl
theorem zw_201 : (Jvm.Cond.code ({ cls := "TorsionDesk$FinitePoints", name := "isMultiple", desc := "(LTorsionDesk$Cubic;II)Z" } : Jvm.MethodName) prog_3_method_16_code (6 : Nat) (Option.some Jvm.ClassFile.FieldType.boolean)) ∈ zB := zB1 (List.mem_append_left _ (List.mem_of_getElem? (i := 201) rfl)) rfl
theorem zw_202 : (Jvm.Cond.methodLink "TorsionDesk" (123 : Nat) ({ cls := "TorsionDesk$FinitePoints", name := "greaterMaker", desc := "()I" } : Jvm.MethodName)) ∈ zB := zB1 (List.mem_append_left _ (List.mem_of_getElem? (i := 202) rfl)) rfl
theorem zw_203 : (Jvm.Cond.methodLink "TorsionDeskLaw" (75 : Nat) ({ cls := "TorsionDesk", name := "bound", desc := "(I)I" } : Jvm.MethodName)) ∈ zB := zB1 (List.mem_append_left _ (List.mem_of_getElem? (i := 203) rfl)) rfl
theorem zw_204 : (Jvm.Cond.instanceMethod ({ cls := "TorsionDesk", name := "bound", desc := "(I)I" } : Jvm.MethodName)) ∈ zB := zB1 (List.mem_append_left _ (List.mem_of_getElem? (i := 204) rfl)) rfl
theorem zw_205 : (Jvm.Cond.selects "TorsionDesk" ({ cls := "TorsionDesk", name := "bound", desc := "(I)I" } : Jvm.MethodName) ({ cls := "TorsionDesk", name := "bound", desc := "(I)I" } : Jvm.MethodName)) ∈ zB := zB1 (List.mem_append_left _ (List.mem_of_getElem? (i := 205) rfl)) rfl
theorem zw_206 : (Jvm.Cond.code ({ cls := "TorsionDesk", name := "bound", desc := "(I)I" } : Jvm.MethodName) prog_1_method_12_code (7 : Nat) (Option.some Jvm.ClassFile.FieldType.int)) ∈ zB := zB1 (List.mem_append_left _ (List.mem_of_getElem? (i := 206) rfl)) rfl
theorem zw_207 : (Jvm.Cond.fieldLink "TorsionDesk" (145 : Nat) "TorsionDesk" "PRIMES" "[I") ∈ zB := zB1 (List.mem_append_left _ (List.mem_of_getElem? (i := 207) rfl)) rfl
theorem zw_209 : (Jvm.Cond.methodLink "TorsionDesk" (136 : Nat) ({ cls := "TorsionDesk$Cubic", name := "isGoodFor", desc := "(I)Z" } : Jvm.MethodName)) ∈ zB := zB1 (List.mem_append_left _ (List.mem_of_getElem? (i := 209) rfl)) rfl
theorem zw_210 : (Jvm.Cond.instanceMethod ({ cls := "TorsionDesk$Cubic", name := "isGoodFor", desc := "(I)Z" } : Jvm.MethodName)) ∈ zB := zB1 (List.mem_append_left _ (List.mem_of_getElem? (i := 210) rfl)) rfl
theorem zw_211 : (Jvm.Cond.selects "TorsionDesk$Cubic" ({ cls := "TorsionDesk$Cubic", name := "isGoodFor", desc := "(I)Z" } : Jvm.MethodName) ({ cls := "TorsionDesk$Cubic", name := "isGoodFor", desc := "(I)Z" } : Jvm.MethodName)) ∈ zB := zB1 (List.mem_append_left _ (List.mem_of_getElem? (i := 211) rfl)) rfl
theorem zw_212 : (Jvm.Cond.code ({ cls := "TorsionDesk$Cubic", name := "isGoodFor", desc := "(I)Z" } : Jvm.MethodName) prog_2_method_6_code (2 : Nat) (Option.some Jvm.ClassFile.FieldType.boolean)) ∈ zB := zB1 (List.mem_append_left _ (List.mem_of_getElem? (i := 212) rfl)) rfl
theorem zw_213 : (Jvm.Cond.methodLink "TorsionDesk" (141 : Nat) ({ cls := "TorsionDesk$Cubic", name := "countFor", desc := "(I)I" } : Jvm.MethodName)) ∈ zB := zB1 (List.mem_append_left _ (List.mem_of_getElem? (i := 213) rfl)) rfl
theorem zw_214 : (Jvm.Cond.instanceMethod ({ cls := "TorsionDesk$Cubic", name := "countFor", desc := "(I)I" } : Jvm.MethodName)) ∈ zB := zB1 (List.mem_append_left _ (List.mem_of_getElem? (i := 214) rfl)) rfl
theorem zw_215 : (Jvm.Cond.selects "TorsionDesk$Cubic" ({ cls := "TorsionDesk$Cubic", name := "countFor", desc := "(I)I" } : Jvm.MethodName) ({ cls := "TorsionDesk$Cubic", name := "countFor", desc := "(I)I" } : Jvm.MethodName)) ∈ zB := zB1 (List.mem_append_left _ (List.mem_of_getElem? (i := 215) rfl)) rfl
theorem zw_216 : (Jvm.Cond.code ({ cls := "TorsionDesk$Cubic", name := "countFor", desc := "(I)I" } : Jvm.MethodName) prog_2_method_7_code (4 : Nat) (Option.some Jvm.ClassFile.FieldType.int)) ∈ zB := zB1 (List.mem_append_left _ (List.mem_of_getElem? (i := 216) rfl)) rfl
theorem zw_217 : (Jvm.Cond.methodLink "TorsionDesk$Cubic" (42 : Nat) ({ cls := "java/util/Arrays", name := "fill", desc := "([II)V" } : Jvm.MethodName)) ∈ zB := zB1 (List.mem_append_left _ (List.mem_of_getElem? (i := 217) rfl)) rfl
theorem zw_218 : (Jvm.Cond.static ({ cls := "java/util/Arrays", name := "fill", desc := "([II)V" } : Jvm.MethodName)) ∈ zB := zB1 (List.mem_append_left _ (List.mem_of_getElem? (i := 218) rfl)) rfl
theorem zw_219 : (Jvm.Cond.code ({ cls := "java/util/Arrays", name := "fill", desc := "([II)V" } : Jvm.MethodName) prog_15_method_103_code (4 : Nat) (Option.none : Option Jvm.ClassFile.FieldType)) ∈ zB := zB1 (List.mem_append_left _ (List.mem_of_getElem? (i := 219) rfl)) rfl
theorem zw_220 : (Jvm.Cond.methodLink "TorsionDesk$Cubic" (48 : Nat) ({ cls := "TorsionDesk$Cubic", name := "valueAt", desc := "(J)J" } : Jvm.MethodName)) ∈ zB := zB1 (List.mem_append_left _ (List.mem_of_getElem? (i := 220) rfl)) rfl
theorem zw_221 : (Jvm.Cond.instanceMethod ({ cls := "TorsionDesk$Cubic", name := "valueAt", desc := "(J)J" } : Jvm.MethodName)) ∈ zB := zB1 (List.mem_append_left _ (List.mem_of_getElem? (i := 221) rfl)) rfl
theorem zw_222 : (Jvm.Cond.selects "TorsionDesk$Cubic" ({ cls := "TorsionDesk$Cubic", name := "valueAt", desc := "(J)J" } : Jvm.MethodName) ({ cls := "TorsionDesk$Cubic", name := "valueAt", desc := "(J)J" } : Jvm.MethodName)) ∈ zB := zB1 (List.mem_append_left _ (List.mem_of_getElem? (i := 222) rfl)) rfl
theorem zw_223 : (Jvm.Cond.code ({ cls := "TorsionDesk$Cubic", name := "valueAt", desc := "(J)J" } : Jvm.MethodName) prog_2_method_4_code (3 : Nat) (Option.some Jvm.ClassFile.FieldType.long)) ∈ zB := zB1 (List.mem_append_left _ (List.mem_of_getElem? (i := 223) rfl)) rfl
theorem zw_224 : (Jvm.Cond.methodLink "TorsionDesk$Cubic" (52 : Nat) ({ cls := "java/lang/Math", name := "floorMod", desc := "(JJ)J" } : Jvm.MethodName)) ∈ zB := zB1 (List.mem_append_left _ (List.mem_of_getElem? (i := 224) rfl)) rfl
theorem zw_225 : (Jvm.Cond.static ({ cls := "java/lang/Math", name := "floorMod", desc := "(JJ)J" } : Jvm.MethodName)) ∈ zB := zB1 (List.mem_append_left _ (List.mem_of_getElem? (i := 225) rfl)) rfl
theorem zw_226 : (Jvm.Cond.code ({ cls := "java/lang/Math", name := "floorMod", desc := "(JJ)J" } : Jvm.MethodName) prog_11_method_52_code (6 : Nat) (Option.some Jvm.ClassFile.FieldType.long)) ∈ zB := zB1 (List.mem_append_left _ (List.mem_of_getElem? (i := 226) rfl)) rfl
theorem zw_227 : (Jvm.Cond.methodLink "TorsionDesk" (148 : Nat) ({ cls := "TorsionDesk", name := "greatestDivisor", desc := "(II)I" } : Jvm.MethodName)) ∈ zB := zB1 (List.mem_append_left _ (List.mem_of_getElem? (i := 227) rfl)) rfl
theorem zw_228 : (Jvm.Cond.static ({ cls := "TorsionDesk", name := "greatestDivisor", desc := "(II)I" } : Jvm.MethodName)) ∈ zB := zB1 (List.mem_append_left _ (List.mem_of_getElem? (i := 228) rfl)) rfl
theorem zw_229 : (Jvm.Cond.code ({ cls := "TorsionDesk", name := "greatestDivisor", desc := "(II)I" } : Jvm.MethodName) prog_1_method_16_code (6 : Nat) (Option.some Jvm.ClassFile.FieldType.int)) ∈ zB := zB1 (List.mem_append_left _ (List.mem_of_getElem? (i := 229) rfl)) rfl
theorem zw_230 : (Jvm.Cond.methodLink "TorsionDeskLaw" (27 : Nat) ({ cls := "TorsionDeskLaw", name := "curve", desc := "(LTorsionDesk;IIIII[J)I" } : Jvm.MethodName)) ∈ zB := zB1 (List.mem_append_left _ (List.mem_of_getElem? (i := 230) rfl)) rfl
theorem zw_231 : (Jvm.Cond.static ({ cls := "TorsionDeskLaw", name := "curve", desc := "(LTorsionDesk;IIIII[J)I" } : Jvm.MethodName)) ∈ zB := zB1 (List.mem_append_left _ (List.mem_of_getElem? (i := 231) rfl)) rfl
theorem zw_233 : (Jvm.Cond.classLink "TorsionDeskLaw" (13 : Nat) "java/lang/IllegalArgumentException") ∈ zB := zB1 (List.mem_append_left _ (List.mem_of_getElem? (i := 233) rfl)) rfl
theorem zw_234 : (Jvm.Cond.classLink "TorsionDeskLaw" (15 : Nat) "java/lang/ArithmeticException") ∈ zB := zB1 (List.mem_append_left _ (List.mem_of_getElem? (i := 234) rfl)) rfl
theorem zw_235 : (Jvm.Cond.methodLink "TorsionDeskLaw" (7 : Nat) ({ cls := "TorsionDesk", name := "curve", desc := "(IIIII)I" } : Jvm.MethodName)) ∈ zB := zB1 (List.mem_append_left _ (List.mem_of_getElem? (i := 235) rfl)) rfl
theorem zw_236 : (Jvm.Cond.instanceMethod ({ cls := "TorsionDesk", name := "curve", desc := "(IIIII)I" } : Jvm.MethodName)) ∈ zB := zB1 (List.mem_append_left _ (List.mem_of_getElem? (i := 236) rfl)) rfl
theorem zw_237 : (Jvm.Cond.selects "TorsionDesk" ({ cls := "TorsionDesk", name := "curve", desc := "(IIIII)I" } : Jvm.MethodName) ({ cls := "TorsionDesk", name := "curve", desc := "(IIIII)I" } : Jvm.MethodName)) ∈ zB := zB1 (List.mem_append_left _ (List.mem_of_getElem? (i := 237) rfl)) rfl
theorem zw_238 : (Jvm.Cond.code ({ cls := "TorsionDesk", name := "curve", desc := "(IIIII)I" } : Jvm.MethodName) prog_1_method_2_code (12 : Nat) (Option.some Jvm.ClassFile.FieldType.int)) ∈ zB := zB1 (List.mem_append_left _ (List.mem_of_getElem? (i := 238) rfl)) rfl
theorem zw_239 : (Jvm.Cond.methodLink "TorsionDesk" (30 : Nat) ({ cls := "TorsionDesk", name := "isCoefficient", desc := "(I)Z" } : Jvm.MethodName)) ∈ zB := zB1 (List.mem_append_left _ (List.mem_of_getElem? (i := 239) rfl)) rfl
theorem zw_240 : (Jvm.Cond.static ({ cls := "TorsionDesk", name := "isCoefficient", desc := "(I)Z" } : Jvm.MethodName)) ∈ zB := zB1 (List.mem_append_right _ (List.mem_append_left _ (List.mem_of_getElem? (i := 0) rfl))) rfl
theorem zw_241 : (Jvm.Cond.code ({ cls := "TorsionDesk", name := "isCoefficient", desc := "(I)Z" } : Jvm.MethodName) prog_1_method_13_code (1 : Nat) (Option.some Jvm.ClassFile.FieldType.boolean)) ∈ zB := zB1 (List.mem_append_right _ (List.mem_append_left _ (List.mem_of_getElem? (i := 1) rfl))) rfl
theorem zw_242 : (Jvm.Cond.classLink "TorsionDesk" (34 : Nat) "java/lang/IllegalArgumentException") ∈ zB := zB1 (List.mem_append_right _ (List.mem_append_left _ (List.mem_of_getElem? (i := 2) rfl))) rfl
theorem zw_243 : (Jvm.Cond.instantiable "java/lang/IllegalArgumentException" (6 : Nat)) ∈ zB := zB1 (List.mem_append_right _ (List.mem_append_left _ (List.mem_of_getElem? (i := 3) rfl))) rfl
theorem zw_251 : (Jvm.Cond.selects "java/lang/IllegalArgumentException" ({ cls := "java/lang/Throwable", name := "fillInStackTrace", desc := "(I)Ljava/lang/Throwable;" } : Jvm.MethodName) ({ cls := "java/lang/Throwable", name := "fillInStackTrace", desc := "(I)Ljava/lang/Throwable;" } : Jvm.MethodName)) ∈ zB := zB1 (List.mem_append_right _ (List.mem_append_left _ (List.mem_of_getElem? (i := 11) rfl))) rfl
theorem zw_252 : (Jvm.Cond.selects "java/lang/IllegalArgumentException" ({ cls := "java/lang/Throwable", name := "fillInStackTrace", desc := "()Ljava/lang/Throwable;" } : Jvm.MethodName) ({ cls := "java/lang/Throwable", name := "fillInStackTrace", desc := "()Ljava/lang/Throwable;" } : Jvm.MethodName)) ∈ zB := zB1 (List.mem_append_right _ (List.mem_append_left _ (List.mem_of_getElem? (i := 12) rfl))) rfl
theorem zw_253 : (Jvm.Cond.lays "java/lang/IllegalArgumentException" "java/lang/Throwable" "cause" "Ljava/lang/Throwable;") ∈ zB := zB1 (List.mem_append_right _ (List.mem_append_left _ (List.mem_of_getElem? (i := 13) rfl))) rfl
theorem zw_254 : (Jvm.Cond.lays "java/lang/Throwable" "java/lang/Throwable" "cause" "Ljava/lang/Throwable;") ∈ zB := zB1 (List.mem_append_right _ (List.mem_append_left _ (List.mem_of_getElem? (i := 14) rfl))) rfl
theorem zw_255 : (Jvm.Cond.lays "java/lang/IllegalArgumentException" "java/lang/Throwable" "stackTrace" "[Ljava/lang/StackTraceElement;") ∈ zB := zB1 (List.mem_append_right _ (List.mem_append_left _ (List.mem_of_getElem? (i := 15) rfl))) rfl
theorem zw_256 : (Jvm.Cond.lays "java/lang/Throwable" "java/lang/Throwable" "stackTrace" "[Ljava/lang/StackTraceElement;") ∈ zB := zB1 (List.mem_append_right _ (List.mem_append_left _ (List.mem_of_getElem? (i := 16) rfl))) rfl
theorem zw_257 : (Jvm.Cond.lays "java/lang/IllegalArgumentException" "java/lang/Throwable" "suppressedExceptions" "Ljava/util/List;") ∈ zB := zB1 (List.mem_append_right _ (List.mem_append_left _ (List.mem_of_getElem? (i := 17) rfl))) rfl
theorem zw_258 : (Jvm.Cond.lays "java/lang/Throwable" "java/lang/Throwable" "suppressedExceptions" "Ljava/util/List;") ∈ zB := zB1 (List.mem_append_right _ (List.mem_append_left _ (List.mem_of_getElem? (i := 18) rfl))) rfl
theorem zw_259 : (Jvm.Cond.lays "java/lang/IllegalArgumentException" "java/lang/Throwable" "detailMessage" "Ljava/lang/String;") ∈ zB := zB1 (List.mem_append_right _ (List.mem_append_left _ (List.mem_of_getElem? (i := 19) rfl))) rfl
theorem zw_260 : (Jvm.Cond.lays "java/lang/Throwable" "java/lang/Throwable" "detailMessage" "Ljava/lang/String;") ∈ zB := zB1 (List.mem_append_right _ (List.mem_append_left _ (List.mem_of_getElem? (i := 20) rfl))) rfl
theorem zw_261 : (Jvm.Cond.lays "java/lang/IllegalArgumentException" "java/lang/Throwable" "backtrace" "Ljava/lang/Object;") ∈ zB := zB1 (List.mem_append_right _ (List.mem_append_left _ (List.mem_of_getElem? (i := 21) rfl))) rfl
theorem zw_262 : (Jvm.Cond.lays "java/lang/Throwable" "java/lang/Throwable" "backtrace" "Ljava/lang/Object;") ∈ zB := zB1 (List.mem_append_right _ (List.mem_append_left _ (List.mem_of_getElem? (i := 22) rfl))) rfl
theorem zw_263 : (Jvm.Cond.fieldLink "java/lang/Throwable" (198 : Nat) "java/lang/Throwable" "backtrace" "Ljava/lang/Object;") ∈ zB := zB1 (List.mem_append_right _ (List.mem_append_left _ (List.mem_of_getElem? (i := 23) rfl))) rfl
theorem zw_265 : (Jvm.Cond.instanceMethod ({ cls := "java/lang/Throwable", name := "<init>", desc := "()V" } : Jvm.MethodName)) ∈ zB := zB1 (List.mem_append_right _ (List.mem_append_left _ (List.mem_of_getElem? (i := 25) rfl))) rfl
theorem zw_266 : (Jvm.Cond.code ({ cls := "java/lang/Throwable", name := "<init>", desc := "()V" } : Jvm.MethodName) prog_14_method_1_code (1 : Nat) (Option.none : Option Jvm.ClassFile.FieldType)) ∈ zB := zB1 (List.mem_append_right _ (List.mem_append_left _ (List.mem_of_getElem? (i := 26) rfl))) rfl
theorem zw_267 : (Jvm.Cond.methodLink "java/lang/Throwable" (1 : Nat) ({ cls := "java/lang/Object", name := "<init>", desc := "()V" } : Jvm.MethodName)) ∈ zB := zB1 (List.mem_append_right _ (List.mem_append_left _ (List.mem_of_getElem? (i := 27) rfl))) rfl
theorem zw_268 : (Jvm.Cond.fieldLink "java/lang/Throwable" (13 : Nat) "java/lang/Throwable" "UNASSIGNED_STACK" "[Ljava/lang/StackTraceElement;") ∈ zB := zB1 (List.mem_append_right _ (List.mem_append_left _ (List.mem_of_getElem? (i := 28) rfl))) rfl
theorem zw_270 : (Jvm.Cond.fieldLink "java/lang/Throwable" (20 : Nat) "java/lang/Throwable" "SUPPRESSED_SENTINEL" "Ljava/util/List;") ∈ zB := zB1 (List.mem_append_right _ (List.mem_append_left _ (List.mem_of_getElem? (i := 30) rfl))) rfl
theorem zw_272 : (Jvm.Cond.methodLink "java/lang/Throwable" (27 : Nat) ({ cls := "java/lang/Throwable", name := "fillInStackTrace", desc := "()Ljava/lang/Throwable;" } : Jvm.MethodName)) ∈ zB := zB1 (List.mem_append_right _ (List.mem_append_left _ (List.mem_of_getElem? (i := 32) rfl))) rfl
theorem zw_273 : (Jvm.Cond.instanceMethod ({ cls := "java/lang/Throwable", name := "fillInStackTrace", desc := "()Ljava/lang/Throwable;" } : Jvm.MethodName)) ∈ zB := zB1 (List.mem_append_right _ (List.mem_append_left _ (List.mem_of_getElem? (i := 33) rfl))) rfl
theorem zw_275 : (Jvm.Cond.selects "java/lang/ArithmeticException" ({ cls := "java/lang/Throwable", name := "fillInStackTrace", desc := "()Ljava/lang/Throwable;" } : Jvm.MethodName) ({ cls := "java/lang/Throwable", name := "fillInStackTrace", desc := "()Ljava/lang/Throwable;" } : Jvm.MethodName)) ∈ zB := zB1 (List.mem_append_right _ (List.mem_append_left _ (List.mem_of_getElem? (i := 35) rfl))) rfl
theorem zw_276 : (Jvm.Cond.selects "java/lang/IllegalStateException" ({ cls := "java/lang/Throwable", name := "fillInStackTrace", desc := "()Ljava/lang/Throwable;" } : Jvm.MethodName) ({ cls := "java/lang/Throwable", name := "fillInStackTrace", desc := "()Ljava/lang/Throwable;" } : Jvm.MethodName)) ∈ zB := zB1 (List.mem_append_right _ (List.mem_append_left _ (List.mem_of_getElem? (i := 36) rfl))) rfl
theorem zw_278 : (Jvm.Cond.methodLink "java/lang/Throwable" (202 : Nat) ({ cls := "java/lang/Throwable", name := "fillInStackTrace", desc := "(I)Ljava/lang/Throwable;" } : Jvm.MethodName)) ∈ zB := zB1 (List.mem_append_right _ (List.mem_append_left _ (List.mem_of_getElem? (i := 38) rfl))) rfl
theorem zw_280 : (Jvm.Cond.instanceMethod ({ cls := "java/lang/Throwable", name := "fillInStackTrace", desc := "(I)Ljava/lang/Throwable;" } : Jvm.MethodName)) ∈ zB := zB1 (List.mem_append_right _ (List.mem_append_left _ (List.mem_of_getElem? (i := 40) rfl))) rfl
theorem zw_281 : (Jvm.Cond.instantiable "java/lang/Throwable" (6 : Nat)) ∈ zB := zB1 (List.mem_append_right _ (List.mem_append_left _ (List.mem_of_getElem? (i := 41) rfl))) rfl
theorem zw_284 : (Jvm.Cond.methodLink "TorsionDesk" (38 : Nat) ({ cls := "java/lang/IllegalArgumentException", name := "<init>", desc := "(Ljava/lang/String;)V" } : Jvm.MethodName)) ∈ zB := zB1 (List.mem_append_right _ (List.mem_append_left _ (List.mem_of_getElem? (i := 44) rfl))) rfl
theorem zw_285 : (Jvm.Cond.instanceMethod ({ cls := "java/lang/IllegalArgumentException", name := "<init>", desc := "(Ljava/lang/String;)V" } : Jvm.MethodName)) ∈ zB := zB1 (List.mem_append_right _ (List.mem_append_left _ (List.mem_of_getElem? (i := 45) rfl))) rfl
theorem zw_286 : (Jvm.Cond.code ({ cls := "java/lang/IllegalArgumentException", name := "<init>", desc := "(Ljava/lang/String;)V" } : Jvm.MethodName) prog_9_method_2_code (2 : Nat) (Option.none : Option Jvm.ClassFile.FieldType)) ∈ zB := zB1 (List.mem_append_right _ (List.mem_append_left _ (List.mem_of_getElem? (i := 46) rfl))) rfl
theorem zw_287 : (Jvm.Cond.methodLink "java/lang/IllegalArgumentException" (7 : Nat) ({ cls := "java/lang/RuntimeException", name := "<init>", desc := "(Ljava/lang/String;)V" } : Jvm.MethodName)) ∈ zB := zB1 (List.mem_append_right _ (List.mem_append_left _ (List.mem_of_getElem? (i := 47) rfl))) rfl
theorem zw_288 : (Jvm.Cond.instanceMethod ({ cls := "java/lang/RuntimeException", name := "<init>", desc := "(Ljava/lang/String;)V" } : Jvm.MethodName)) ∈ zB := zB1 (List.mem_append_right _ (List.mem_append_left _ (List.mem_of_getElem? (i := 48) rfl))) rfl
theorem zw_289 : (Jvm.Cond.code ({ cls := "java/lang/RuntimeException", name := "<init>", desc := "(Ljava/lang/String;)V" } : Jvm.MethodName) prog_12_method_2_code (2 : Nat) (Option.none : Option Jvm.ClassFile.FieldType)) ∈ zB := zB1 (List.mem_append_right _ (List.mem_append_left _ (List.mem_of_getElem? (i := 49) rfl))) rfl
theorem zw_290 : (Jvm.Cond.methodLink "java/lang/RuntimeException" (7 : Nat) ({ cls := "java/lang/Exception", name := "<init>", desc := "(Ljava/lang/String;)V" } : Jvm.MethodName)) ∈ zB := zB1 (List.mem_append_right _ (List.mem_append_left _ (List.mem_of_getElem? (i := 50) rfl))) rfl
theorem zw_291 : (Jvm.Cond.instanceMethod ({ cls := "java/lang/Exception", name := "<init>", desc := "(Ljava/lang/String;)V" } : Jvm.MethodName)) ∈ zB := zB1 (List.mem_append_right _ (List.mem_append_left _ (List.mem_of_getElem? (i := 51) rfl))) rfl
theorem zw_292 : (Jvm.Cond.code ({ cls := "java/lang/Exception", name := "<init>", desc := "(Ljava/lang/String;)V" } : Jvm.MethodName) prog_8_method_2_code (2 : Nat) (Option.none : Option Jvm.ClassFile.FieldType)) ∈ zB := zB1 (List.mem_append_right _ (List.mem_append_left _ (List.mem_of_getElem? (i := 52) rfl))) rfl
theorem zw_293 : (Jvm.Cond.methodLink "java/lang/Exception" (7 : Nat) ({ cls := "java/lang/Throwable", name := "<init>", desc := "(Ljava/lang/String;)V" } : Jvm.MethodName)) ∈ zB := zB1 (List.mem_append_right _ (List.mem_append_left _ (List.mem_of_getElem? (i := 53) rfl))) rfl
theorem zw_294 : (Jvm.Cond.instanceMethod ({ cls := "java/lang/Throwable", name := "<init>", desc := "(Ljava/lang/String;)V" } : Jvm.MethodName)) ∈ zB := zB1 (List.mem_append_right _ (List.mem_append_left _ (List.mem_of_getElem? (i := 54) rfl))) rfl
theorem zw_295 : (Jvm.Cond.code ({ cls := "java/lang/Throwable", name := "<init>", desc := "(Ljava/lang/String;)V" } : Jvm.MethodName) prog_14_method_2_code (2 : Nat) (Option.none : Option Jvm.ClassFile.FieldType)) ∈ zB := zB1 (List.mem_append_right _ (List.mem_append_left _ (List.mem_of_getElem? (i := 55) rfl))) rfl
theorem zw_296 : (Jvm.Cond.fieldLink "java/lang/Throwable" (198 : Nat) "java/lang/Throwable" "backtrace" "Ljava/lang/Object;") ∈ zB := zB1 (List.mem_append_right _ (List.mem_append_left _ (List.mem_of_getElem? (i := 56) rfl))) rfl
theorem zw_297 : (Jvm.Cond.fieldLink "java/lang/Throwable" (31 : Nat) "java/lang/Throwable" "detailMessage" "Ljava/lang/String;") ∈ zB := zB1 (List.mem_append_right _ (List.mem_append_left _ (List.mem_of_getElem? (i := 57) rfl))) rfl
theorem zw_298 : (Jvm.Cond.fieldLink "java/lang/Throwable" (7 : Nat) "java/lang/Throwable" "cause" "Ljava/lang/Throwable;") ∈ zB := zB1 (List.mem_append_right _ (List.mem_append_left _ (List.mem_of_getElem? (i := 58) rfl))) rfl
theorem zw_299 : (Jvm.Cond.fieldLink "java/lang/Throwable" (17 : Nat) "java/lang/Throwable" "stackTrace" "[Ljava/lang/StackTraceElement;") ∈ zB := zB1 (List.mem_append_right _ (List.mem_append_left _ (List.mem_of_getElem? (i := 59) rfl))) rfl
theorem zw_300 : (Jvm.Cond.fieldLink "java/lang/Throwable" (24 : Nat) "java/lang/Throwable" "suppressedExceptions" "Ljava/util/List;") ∈ zB := zB1 (List.mem_append_right _ (List.mem_append_left _ (List.mem_of_getElem? (i := 60) rfl))) rfl
theorem zw_305 : (Jvm.Cond.lays "java/lang/IllegalArgumentException" "java/lang/Throwable" "depth" "I") ∈ zB := zB1 (List.mem_append_right _ (List.mem_append_left _ (List.mem_of_getElem? (i := 65) rfl))) rfl
theorem zw_309 : (Jvm.Cond.arrayClass Jvm.ClassFile.FieldType.byte) ∈ zB := zB1 (List.mem_append_right _ (List.mem_append_left _ (List.mem_of_getElem? (i := 69) rfl))) rfl
theorem zw_310 : (Jvm.Cond.methodLink "TorsionDesk" (41 : Nat) ({ cls := "TorsionDesk$Cubic", name := "discriminantOf", desc := "(JJJ)J" } : Jvm.MethodName)) ∈ zB := zB1 (List.mem_append_right _ (List.mem_append_left _ (List.mem_of_getElem? (i := 70) rfl))) rfl
theorem zw_311 : (Jvm.Cond.static ({ cls := "TorsionDesk$Cubic", name := "discriminantOf", desc := "(JJJ)J" } : Jvm.MethodName)) ∈ zB := zB1 (List.mem_append_right _ (List.mem_append_left _ (List.mem_of_getElem? (i := 71) rfl))) rfl
theorem zw_312 : (Jvm.Cond.code ({ cls := "TorsionDesk$Cubic", name := "discriminantOf", desc := "(JJJ)J" } : Jvm.MethodName) prog_2_method_2_code (6 : Nat) (Option.some Jvm.ClassFile.FieldType.long)) ∈ zB := zB1 (List.mem_append_right _ (List.mem_append_left _ (List.mem_of_getElem? (i := 72) rfl))) rfl
theorem zw_313 : (Jvm.Cond.constantLong "TorsionDesk$Cubic" (15 : Nat) (4 : Int64)) ∈ zB := zB1 (List.mem_append_right _ (List.mem_append_left _ (List.mem_of_getElem? (i := 73) rfl))) rfl
theorem zw_314 : (Jvm.Cond.constantLong "TorsionDesk$Cubic" (17 : Nat) (27 : Int64)) ∈ zB := zB1 (List.mem_append_right _ (List.mem_append_left _ (List.mem_of_getElem? (i := 74) rfl))) rfl
theorem zw_315 : (Jvm.Cond.constantLong "TorsionDesk$Cubic" (19 : Nat) (18 : Int64)) ∈ zB := zB1 (List.mem_append_right _ (List.mem_append_left _ (List.mem_of_getElem? (i := 75) rfl))) rfl
theorem zw_316 : (Jvm.Cond.classLink "TorsionDesk" (45 : Nat) "java/lang/ArithmeticException") ∈ zB := zB1 (List.mem_append_right _ (List.mem_append_left _ (List.mem_of_getElem? (i := 76) rfl))) rfl
theorem zw_317 : (Jvm.Cond.instantiable "java/lang/ArithmeticException" (6 : Nat)) ∈ zB := zB1 (List.mem_append_right _ (List.mem_append_left _ (List.mem_of_getElem? (i := 77) rfl))) rfl
theorem zw_319 : (Jvm.Cond.selects "java/lang/ArithmeticException" ({ cls := "java/lang/Throwable", name := "fillInStackTrace", desc := "(I)Ljava/lang/Throwable;" } : Jvm.MethodName) ({ cls := "java/lang/Throwable", name := "fillInStackTrace", desc := "(I)Ljava/lang/Throwable;" } : Jvm.MethodName)) ∈ zB := zB1 (List.mem_append_right _ (List.mem_append_left _ (List.mem_of_getElem? (i := 79) rfl))) rfl
theorem zw_320 : (Jvm.Cond.lays "java/lang/ArithmeticException" "java/lang/Throwable" "cause" "Ljava/lang/Throwable;") ∈ zB := zB1 (List.mem_append_right _ (List.mem_append_left _ (List.mem_of_getElem? (i := 80) rfl))) rfl
theorem zw_321 : (Jvm.Cond.lays "java/lang/ArithmeticException" "java/lang/Throwable" "stackTrace" "[Ljava/lang/StackTraceElement;") ∈ zB := zB1 (List.mem_append_right _ (List.mem_append_left _ (List.mem_of_getElem? (i := 81) rfl))) rfl
theorem zw_322 : (Jvm.Cond.lays "java/lang/ArithmeticException" "java/lang/Throwable" "suppressedExceptions" "Ljava/util/List;") ∈ zB := zB1 (List.mem_append_right _ (List.mem_append_left _ (List.mem_of_getElem? (i := 82) rfl))) rfl
theorem zw_323 : (Jvm.Cond.lays "java/lang/ArithmeticException" "java/lang/Throwable" "detailMessage" "Ljava/lang/String;") ∈ zB := zB1 (List.mem_append_right _ (List.mem_append_left _ (List.mem_of_getElem? (i := 83) rfl))) rfl
theorem zw_324 : (Jvm.Cond.lays "java/lang/ArithmeticException" "java/lang/Throwable" "backtrace" "Ljava/lang/Object;") ∈ zB := zB1 (List.mem_append_right _ (List.mem_append_left _ (List.mem_of_getElem? (i := 84) rfl))) rfl
theorem zw_326 : (Jvm.Cond.methodLink "TorsionDesk" (49 : Nat) ({ cls := "java/lang/ArithmeticException", name := "<init>", desc := "(Ljava/lang/String;)V" } : Jvm.MethodName)) ∈ zB := zB1 (List.mem_append_right _ (List.mem_append_left _ (List.mem_of_getElem? (i := 86) rfl))) rfl
theorem zw_327 : (Jvm.Cond.instanceMethod ({ cls := "java/lang/ArithmeticException", name := "<init>", desc := "(Ljava/lang/String;)V" } : Jvm.MethodName)) ∈ zB := zB1 (List.mem_append_right _ (List.mem_append_left _ (List.mem_of_getElem? (i := 87) rfl))) rfl
theorem zw_328 : (Jvm.Cond.code ({ cls := "java/lang/ArithmeticException", name := "<init>", desc := "(Ljava/lang/String;)V" } : Jvm.MethodName) prog_7_method_2_code (2 : Nat) (Option.none : Option Jvm.ClassFile.FieldType)) ∈ zB := zB1 (List.mem_append_right _ (List.mem_append_left _ (List.mem_of_getElem? (i := 88) rfl))) rfl
theorem zw_329 : (Jvm.Cond.methodLink "java/lang/ArithmeticException" (7 : Nat) ({ cls := "java/lang/RuntimeException", name := "<init>", desc := "(Ljava/lang/String;)V" } : Jvm.MethodName)) ∈ zB := zB1 (List.mem_append_right _ (List.mem_append_left _ (List.mem_of_getElem? (i := 89) rfl))) rfl
theorem zw_330 : (Jvm.Cond.lays "java/lang/ArithmeticException" "java/lang/Throwable" "depth" "I") ∈ zB := zB1 (List.mem_append_right _ (List.mem_append_left _ (List.mem_of_getElem? (i := 90) rfl))) rfl
theorem zw_332 : (Jvm.Cond.methodLink "TorsionDesk" (57 : Nat) ({ cls := "TorsionDesk$Cubic", name := "become", desc := "(JJJ)V" } : Jvm.MethodName)) ∈ zB := zB1 (List.mem_append_right _ (List.mem_append_left _ (List.mem_of_getElem? (i := 92) rfl))) rfl
theorem zw_333 : (Jvm.Cond.instanceMethod ({ cls := "TorsionDesk$Cubic", name := "become", desc := "(JJJ)V" } : Jvm.MethodName)) ∈ zB := zB1 (List.mem_append_right _ (List.mem_append_left _ (List.mem_of_getElem? (i := 93) rfl))) rfl
theorem zw_334 : (Jvm.Cond.selects "TorsionDesk$Cubic" ({ cls := "TorsionDesk$Cubic", name := "become", desc := "(JJJ)V" } : Jvm.MethodName) ({ cls := "TorsionDesk$Cubic", name := "become", desc := "(JJJ)V" } : Jvm.MethodName)) ∈ zB := zB1 (List.mem_append_right _ (List.mem_append_left _ (List.mem_of_getElem? (i := 94) rfl))) rfl
theorem zw_335 : (Jvm.Cond.code ({ cls := "TorsionDesk$Cubic", name := "become", desc := "(JJJ)V" } : Jvm.MethodName) prog_2_method_3_code (7 : Nat) (Option.none : Option Jvm.ClassFile.FieldType)) ∈ zB := zB1 (List.mem_append_right _ (List.mem_append_left _ (List.mem_of_getElem? (i := 95) rfl))) rfl
theorem zw_336 : (Jvm.Cond.methodLink "TorsionDesk$Cubic" (31 : Nat) ({ cls := "TorsionDesk$Cubic", name := "discriminantOf", desc := "(JJJ)J" } : Jvm.MethodName)) ∈ zB := zB1 (List.mem_append_right _ (List.mem_append_left _ (List.mem_of_getElem? (i := 96) rfl))) rfl
theorem zw_337 : (Jvm.Cond.methodLink "TorsionDesk" (65 : Nat) ({ cls := "TorsionDesk$SquareDivisors", name := "listFor", desc := "(J)V" } : Jvm.MethodName)) ∈ zB := zB1 (List.mem_append_right _ (List.mem_append_left _ (List.mem_of_getElem? (i := 97) rfl))) rfl
theorem zw_338 : (Jvm.Cond.instanceMethod ({ cls := "TorsionDesk$SquareDivisors", name := "listFor", desc := "(J)V" } : Jvm.MethodName)) ∈ zB := zB1 (List.mem_append_right _ (List.mem_append_left _ (List.mem_of_getElem? (i := 98) rfl))) rfl
theorem zw_339 : (Jvm.Cond.selects "TorsionDesk$SquareDivisors" ({ cls := "TorsionDesk$SquareDivisors", name := "listFor", desc := "(J)V" } : Jvm.MethodName) ({ cls := "TorsionDesk$SquareDivisors", name := "listFor", desc := "(J)V" } : Jvm.MethodName)) ∈ zB := zB1 (List.mem_append_right _ (List.mem_append_left _ (List.mem_of_getElem? (i := 99) rfl))) rfl
theorem zw_340 : (Jvm.Cond.code ({ cls := "TorsionDesk$SquareDivisors", name := "listFor", desc := "(J)V" } : Jvm.MethodName) prog_4_method_2_code (6 : Nat) (Option.none : Option Jvm.ClassFile.FieldType)) ∈ zB := zB1 (List.mem_append_right _ (List.mem_append_left _ (List.mem_of_getElem? (i := 100) rfl))) rfl
theorem zw_341 : (Jvm.Cond.methodLink "TorsionDesk$SquareDivisors" (15 : Nat) ({ cls := "java/lang/Math", name := "abs", desc := "(J)J" } : Jvm.MethodName)) ∈ zB := zB1 (List.mem_append_right _ (List.mem_append_left _ (List.mem_of_getElem? (i := 101) rfl))) rfl
theorem zw_342 : (Jvm.Cond.static ({ cls := "java/lang/Math", name := "abs", desc := "(J)J" } : Jvm.MethodName)) ∈ zB := zB1 (List.mem_append_right _ (List.mem_append_left _ (List.mem_of_getElem? (i := 102) rfl))) rfl
theorem zw_343 : (Jvm.Cond.code ({ cls := "java/lang/Math", name := "abs", desc := "(J)J" } : Jvm.MethodName) prog_11_method_61_code (2 : Nat) (Option.some Jvm.ClassFile.FieldType.long)) ∈ zB := zB1 (List.mem_append_right _ (List.mem_append_left _ (List.mem_of_getElem? (i := 103) rfl))) rfl
theorem zw_344 : (Jvm.Cond.methodLink "TorsionDesk$SquareDivisors" (21 : Nat) ({ cls := "TorsionDesk$SquareDivisors", name := "largestRoot", desc := "(J)I" } : Jvm.MethodName)) ∈ zB := zB1 (List.mem_append_right _ (List.mem_append_left _ (List.mem_of_getElem? (i := 104) rfl))) rfl
theorem zw_345 : (Jvm.Cond.static ({ cls := "TorsionDesk$SquareDivisors", name := "largestRoot", desc := "(J)I" } : Jvm.MethodName)) ∈ zB := zB1 (List.mem_append_right _ (List.mem_append_left _ (List.mem_of_getElem? (i := 105) rfl))) rfl
theorem zw_346 : (Jvm.Cond.code ({ cls := "TorsionDesk$SquareDivisors", name := "largestRoot", desc := "(J)I" } : Jvm.MethodName) prog_4_method_5_code (9 : Nat) (Option.some Jvm.ClassFile.FieldType.int)) ∈ zB := zB1 (List.mem_append_right _ (List.mem_append_left _ (List.mem_of_getElem? (i := 106) rfl))) rfl
theorem zw_347 : (Jvm.Cond.constantLong "TorsionDesk$SquareDivisors" (40 : Nat) (2 : Int64)) ∈ zB := zB1 (List.mem_append_right _ (List.mem_append_left _ (List.mem_of_getElem? (i := 107) rfl))) rfl
theorem zw_348 : (Jvm.Cond.constantLong "TorsionDesk$SquareDivisors" (42 : Nat) (1000 : Int64)) ∈ zB := zB1 (List.mem_append_right _ (List.mem_append_left _ (List.mem_of_getElem? (i := 108) rfl))) rfl
theorem zw_349 : (Jvm.Cond.methodLink "TorsionDesk$SquareDivisors" (33 : Nat) ({ cls := "TorsionDesk$SquareDivisors", name := "floorOfRoot", desc := "(J)J" } : Jvm.MethodName)) ∈ zB := zB1 (List.mem_append_right _ (List.mem_append_left _ (List.mem_of_getElem? (i := 109) rfl))) rfl
theorem zw_350 : (Jvm.Cond.static ({ cls := "TorsionDesk$SquareDivisors", name := "floorOfRoot", desc := "(J)J" } : Jvm.MethodName)) ∈ zB := zB1 (List.mem_append_right _ (List.mem_append_left _ (List.mem_of_getElem? (i := 110) rfl))) rfl
theorem zw_351 : (Jvm.Cond.code ({ cls := "TorsionDesk$SquareDivisors", name := "floorOfRoot", desc := "(J)J" } : Jvm.MethodName) prog_4_method_6_code (6 : Nat) (Option.some Jvm.ClassFile.FieldType.long)) ∈ zB := zB1 (List.mem_append_right _ (List.mem_append_left _ (List.mem_of_getElem? (i := 111) rfl))) rfl
theorem zw_352 : (Jvm.Cond.constantLong "TorsionDesk$SquareDivisors" (44 : Nat) (32768 : Int64)) ∈ zB := zB1 (List.mem_append_right _ (List.mem_append_left _ (List.mem_of_getElem? (i := 112) rfl))) rfl
theorem zw_353 : (Jvm.Cond.methodLink "TorsionDesk$SquareDivisors" (36 : Nat) ({ cls := "TorsionDesk$SquareDivisors", name := "append", desc := "(I)V" } : Jvm.MethodName)) ∈ zB := zB1 (List.mem_append_right _ (List.mem_append_left _ (List.mem_of_getElem? (i := 113) rfl))) rfl
theorem zw_355 : (Jvm.Cond.instanceMethod ({ cls := "TorsionDesk$SquareDivisors", name := "append", desc := "(I)V" } : Jvm.MethodName)) ∈ zB := zB1 (List.mem_append_right _ (List.mem_append_left _ (List.mem_of_getElem? (i := 115) rfl))) rfl
theorem zw_356 : (Jvm.Cond.code ({ cls := "TorsionDesk$SquareDivisors", name := "append", desc := "(I)V" } : Jvm.MethodName) prog_4_method_4_code (2 : Nat) (Option.none : Option Jvm.ClassFile.FieldType)) ∈ zB := zB1 (List.mem_append_right _ (List.mem_append_left _ (List.mem_of_getElem? (i := 116) rfl))) rfl
theorem zw_357 : (Jvm.Cond.methodLink "TorsionDesk" (69 : Nat) ({ cls := "TorsionDesk$FinitePoints", name := "search", desc := "(LTorsionDesk$Cubic;LTorsionDesk$SquareDivisors;)V" } : Jvm.MethodName)) ∈ zB := zB1 (List.mem_append_right _ (List.mem_append_left _ (List.mem_of_getElem? (i := 117) rfl))) rfl
theorem zw_358 : (Jvm.Cond.instanceMethod ({ cls := "TorsionDesk$FinitePoints", name := "search", desc := "(LTorsionDesk$Cubic;LTorsionDesk$SquareDivisors;)V" } : Jvm.MethodName)) ∈ zB := zB1 (List.mem_append_right _ (List.mem_append_left _ (List.mem_of_getElem? (i := 118) rfl))) rfl
theorem zw_359 : (Jvm.Cond.selects "TorsionDesk$FinitePoints" ({ cls := "TorsionDesk$FinitePoints", name := "search", desc := "(LTorsionDesk$Cubic;LTorsionDesk$SquareDivisors;)V" } : Jvm.MethodName) ({ cls := "TorsionDesk$FinitePoints", name := "search", desc := "(LTorsionDesk$Cubic;LTorsionDesk$SquareDivisors;)V" } : Jvm.MethodName)) ∈ zB := zB1 (List.mem_append_right _ (List.mem_append_left _ (List.mem_of_getElem? (i := 119) rfl))) rfl
theorem zw_360 : (Jvm.Cond.code ({ cls := "TorsionDesk$FinitePoints", name := "search", desc := "(LTorsionDesk$Cubic;LTorsionDesk$SquareDivisors;)V" } : Jvm.MethodName) prog_3_method_3_code (4 : Nat) (Option.none : Option Jvm.ClassFile.FieldType)) ∈ zB := zB1 (List.mem_append_right _ (List.mem_append_left _ (List.mem_of_getElem? (i := 120) rfl))) rfl
theorem zw_361 : (Jvm.Cond.methodLink "TorsionDesk$FinitePoints" (25 : Nat) ({ cls := "TorsionDesk$FinitePoints", name := "collect", desc := "(LTorsionDesk$Cubic;LTorsionDesk$SquareDivisors;)V" } : Jvm.MethodName)) ∈ zB := zB1 (List.mem_append_right _ (List.mem_append_left _ (List.mem_of_getElem? (i := 121) rfl))) rfl
theorem zw_363 : (Jvm.Cond.instanceMethod ({ cls := "TorsionDesk$FinitePoints", name := "collect", desc := "(LTorsionDesk$Cubic;LTorsionDesk$SquareDivisors;)V" } : Jvm.MethodName)) ∈ zB := zB1 (List.mem_append_right _ (List.mem_append_left _ (List.mem_of_getElem? (i := 123) rfl))) rfl
theorem zw_364 : (Jvm.Cond.code ({ cls := "TorsionDesk$FinitePoints", name := "collect", desc := "(LTorsionDesk$Cubic;LTorsionDesk$SquareDivisors;)V" } : Jvm.MethodName) prog_3_method_4_code (7 : Nat) (Option.none : Option Jvm.ClassFile.FieldType)) ∈ zB := zB1 (List.mem_append_right _ (List.mem_append_left _ (List.mem_of_getElem? (i := 124) rfl))) rfl
theorem zw_365 : (Jvm.Cond.methodLink "TorsionDesk$FinitePoints" (36 : Nat) ({ cls := "TorsionDesk$FinitePoints", name := "append", desc := "(II)V" } : Jvm.MethodName)) ∈ zB := zB1 (List.mem_append_right _ (List.mem_append_left _ (List.mem_of_getElem? (i := 125) rfl))) rfl
theorem zw_367 : (Jvm.Cond.instanceMethod ({ cls := "TorsionDesk$FinitePoints", name := "append", desc := "(II)V" } : Jvm.MethodName)) ∈ zB := zB1 (List.mem_append_right _ (List.mem_append_left _ (List.mem_of_getElem? (i := 127) rfl))) rfl
theorem zw_368 : (Jvm.Cond.code ({ cls := "TorsionDesk$FinitePoints", name := "append", desc := "(II)V" } : Jvm.MethodName) prog_3_method_5_code (3 : Nat) (Option.none : Option Jvm.ClassFile.FieldType)) ∈ zB := zB1 (List.mem_append_right _ (List.mem_append_left _ (List.mem_of_getElem? (i := 128) rfl))) rfl
theorem zw_369 : (Jvm.Cond.methodLink "TorsionDesk$FinitePoints" (40 : Nat) ({ cls := "TorsionDesk$Cubic", name := "valueAt", desc := "(J)J" } : Jvm.MethodName)) ∈ zB := zB1 (List.mem_append_right _ (List.mem_append_left _ (List.mem_of_getElem? (i := 129) rfl))) rfl
theorem zw_370 : (Jvm.Cond.methodLink "TorsionDesk$FinitePoints" (52 : Nat) ({ cls := "TorsionDesk$SquareDivisors", name := "rootOf", desc := "(J)I" } : Jvm.MethodName)) ∈ zB := zB1 (List.mem_append_right _ (List.mem_append_left _ (List.mem_of_getElem? (i := 130) rfl))) rfl
theorem zw_371 : (Jvm.Cond.instanceMethod ({ cls := "TorsionDesk$SquareDivisors", name := "rootOf", desc := "(J)I" } : Jvm.MethodName)) ∈ zB := zB1 (List.mem_append_right _ (List.mem_append_left _ (List.mem_of_getElem? (i := 131) rfl))) rfl
theorem zw_372 : (Jvm.Cond.selects "TorsionDesk$SquareDivisors" ({ cls := "TorsionDesk$SquareDivisors", name := "rootOf", desc := "(J)I" } : Jvm.MethodName) ({ cls := "TorsionDesk$SquareDivisors", name := "rootOf", desc := "(J)I" } : Jvm.MethodName)) ∈ zB := zB1 (List.mem_append_right _ (List.mem_append_left _ (List.mem_of_getElem? (i := 132) rfl))) rfl
theorem zw_373 : (Jvm.Cond.code ({ cls := "TorsionDesk$SquareDivisors", name := "rootOf", desc := "(J)I" } : Jvm.MethodName) prog_4_method_3_code (4 : Nat) (Option.some Jvm.ClassFile.FieldType.int)) ∈ zB := zB1 (List.mem_append_right _ (List.mem_append_left _ (List.mem_of_getElem? (i := 133) rfl))) rfl
theorem zw_374 : (Jvm.Cond.methodLink "TorsionDesk$FinitePoints" (29 : Nat) ({ cls := "TorsionDesk$FinitePoints", name := "orderOf", desc := "(LTorsionDesk$Cubic;I)I" } : Jvm.MethodName)) ∈ zB := zB1 (List.mem_append_right _ (List.mem_append_left _ (List.mem_of_getElem? (i := 134) rfl))) rfl
theorem zw_376 : (Jvm.Cond.instanceMethod ({ cls := "TorsionDesk$FinitePoints", name := "orderOf", desc := "(LTorsionDesk$Cubic;I)I" } : Jvm.MethodName)) ∈ zB := zB1 (List.mem_append_right _ (List.mem_append_left _ (List.mem_of_getElem? (i := 136) rfl))) rfl
theorem zw_377 : (Jvm.Cond.code ({ cls := "TorsionDesk$FinitePoints", name := "orderOf", desc := "(LTorsionDesk$Cubic;I)I" } : Jvm.MethodName) prog_3_method_6_code (5 : Nat) (Option.some Jvm.ClassFile.FieldType.int)) ∈ zB := zB1 (List.mem_append_right _ (List.mem_append_left _ (List.mem_of_getElem? (i := 137) rfl))) rfl
theorem zw_378 : (Jvm.Cond.methodLink "TorsionDesk$FinitePoints" (33 : Nat) ({ cls := "TorsionDesk$FinitePoints", name := "keepFinite", desc := "()V" } : Jvm.MethodName)) ∈ zB := zB1 (List.mem_append_right _ (List.mem_append_left _ (List.mem_of_getElem? (i := 138) rfl))) rfl
theorem zw_380 : (Jvm.Cond.instanceMethod ({ cls := "TorsionDesk$FinitePoints", name := "keepFinite", desc := "()V" } : Jvm.MethodName)) ∈ zB := zB1 (List.mem_append_right _ (List.mem_append_left _ (List.mem_of_getElem? (i := 140) rfl))) rfl
theorem zw_381 : (Jvm.Cond.code ({ cls := "TorsionDesk$FinitePoints", name := "keepFinite", desc := "()V" } : Jvm.MethodName) prog_3_method_7_code (3 : Nat) (Option.none : Option Jvm.ClassFile.FieldType)) ∈ zB := zB1 (List.mem_append_right _ (List.mem_append_left _ (List.mem_of_getElem? (i := 141) rfl))) rfl
theorem zw_382 : (Jvm.Cond.methodLink "TorsionDeskLaw" (71 : Nat) ({ cls := "TorsionDeskLaw", name := "modulo", desc := "(LTorsionDesk;I[J)I" } : Jvm.MethodName)) ∈ zB := zB1 (List.mem_append_right _ (List.mem_append_left _ (List.mem_of_getElem? (i := 142) rfl))) rfl
theorem zw_383 : (Jvm.Cond.static ({ cls := "TorsionDeskLaw", name := "modulo", desc := "(LTorsionDesk;I[J)I" } : Jvm.MethodName)) ∈ zB := zB1 (List.mem_append_right _ (List.mem_append_left _ (List.mem_of_getElem? (i := 143) rfl))) rfl
theorem zw_385 : (Jvm.Cond.classLink "TorsionDeskLaw" (21 : Nat) "java/lang/IllegalStateException") ∈ zB := zB1 (List.mem_append_right _ (List.mem_append_left _ (List.mem_of_getElem? (i := 145) rfl))) rfl
theorem zw_386 : (Jvm.Cond.methodLink "TorsionDeskLaw" (17 : Nat) ({ cls := "TorsionDesk", name := "modulo", desc := "(I)I" } : Jvm.MethodName)) ∈ zB := zB1 (List.mem_append_right _ (List.mem_append_left _ (List.mem_of_getElem? (i := 146) rfl))) rfl
theorem zw_387 : (Jvm.Cond.instanceMethod ({ cls := "TorsionDesk", name := "modulo", desc := "(I)I" } : Jvm.MethodName)) ∈ zB := zB1 (List.mem_append_right _ (List.mem_append_left _ (List.mem_of_getElem? (i := 147) rfl))) rfl
theorem zw_388 : (Jvm.Cond.selects "TorsionDesk" ({ cls := "TorsionDesk", name := "modulo", desc := "(I)I" } : Jvm.MethodName) ({ cls := "TorsionDesk", name := "modulo", desc := "(I)I" } : Jvm.MethodName)) ∈ zB := zB1 (List.mem_append_right _ (List.mem_append_left _ (List.mem_of_getElem? (i := 148) rfl))) rfl
theorem zw_389 : (Jvm.Cond.code ({ cls := "TorsionDesk", name := "modulo", desc := "(I)I" } : Jvm.MethodName) prog_1_method_11_code (2 : Nat) (Option.some Jvm.ClassFile.FieldType.int)) ∈ zB := zB1 (List.mem_append_right _ (List.mem_append_left _ (List.mem_of_getElem? (i := 149) rfl))) rfl
theorem zw_390 : (Jvm.Cond.methodLink "TorsionDesk" (126 : Nat) ({ cls := "TorsionDesk", name := "isPrime", desc := "(I)Z" } : Jvm.MethodName)) ∈ zB := zB1 (List.mem_append_right _ (List.mem_append_left _ (List.mem_of_getElem? (i := 150) rfl))) rfl
theorem zw_391 : (Jvm.Cond.static ({ cls := "TorsionDesk", name := "isPrime", desc := "(I)Z" } : Jvm.MethodName)) ∈ zB := zB1 (List.mem_append_right _ (List.mem_append_left _ (List.mem_of_getElem? (i := 151) rfl))) rfl
theorem zw_392 : (Jvm.Cond.code ({ cls := "TorsionDesk", name := "isPrime", desc := "(I)Z" } : Jvm.MethodName) prog_1_method_14_code (5 : Nat) (Option.some Jvm.ClassFile.FieldType.boolean)) ∈ zB := zB1 (List.mem_append_right _ (List.mem_append_left _ (List.mem_of_getElem? (i := 152) rfl))) rfl
theorem zw_394 : (Jvm.Cond.classLink "TorsionDesk" (131 : Nat) "java/lang/IllegalStateException") ∈ zB := zB1 (List.mem_append_right _ (List.mem_append_left _ (List.mem_of_getElem? (i := 154) rfl))) rfl
theorem zw_395 : (Jvm.Cond.instantiable "java/lang/IllegalStateException" (6 : Nat)) ∈ zB := zB1 (List.mem_append_right _ (List.mem_append_left _ (List.mem_of_getElem? (i := 155) rfl))) rfl
theorem zw_397 : (Jvm.Cond.selects "java/lang/IllegalStateException" ({ cls := "java/lang/Throwable", name := "fillInStackTrace", desc := "(I)Ljava/lang/Throwable;" } : Jvm.MethodName) ({ cls := "java/lang/Throwable", name := "fillInStackTrace", desc := "(I)Ljava/lang/Throwable;" } : Jvm.MethodName)) ∈ zB := zB1 (List.mem_append_right _ (List.mem_append_left _ (List.mem_of_getElem? (i := 157) rfl))) rfl
theorem zw_398 : (Jvm.Cond.lays "java/lang/IllegalStateException" "java/lang/Throwable" "cause" "Ljava/lang/Throwable;") ∈ zB := zB1 (List.mem_append_right _ (List.mem_append_left _ (List.mem_of_getElem? (i := 158) rfl))) rfl
theorem zw_399 : (Jvm.Cond.lays "java/lang/IllegalStateException" "java/lang/Throwable" "stackTrace" "[Ljava/lang/StackTraceElement;") ∈ zB := zB1 (List.mem_append_right _ (List.mem_append_left _ (List.mem_of_getElem? (i := 159) rfl))) rfl
theorem zw_400 : (Jvm.Cond.lays "java/lang/IllegalStateException" "java/lang/Throwable" "suppressedExceptions" "Ljava/util/List;") ∈ zB := zB1 (List.mem_append_right _ (List.mem_append_left _ (List.mem_of_getElem? (i := 160) rfl))) rfl
theorem zw_401 : (Jvm.Cond.lays "java/lang/IllegalStateException" "java/lang/Throwable" "detailMessage" "Ljava/lang/String;") ∈ zB := zB1 (List.mem_append_right _ (List.mem_append_left _ (List.mem_of_getElem? (i := 161) rfl))) rfl
theorem zw_402 : (Jvm.Cond.lays "java/lang/IllegalStateException" "java/lang/Throwable" "backtrace" "Ljava/lang/Object;") ∈ zB := zB1 (List.mem_append_right _ (List.mem_append_left _ (List.mem_of_getElem? (i := 162) rfl))) rfl
theorem zw_404 : (Jvm.Cond.methodLink "TorsionDesk" (135 : Nat) ({ cls := "java/lang/IllegalStateException", name := "<init>", desc := "(Ljava/lang/String;)V" } : Jvm.MethodName)) ∈ zB := zB1 (List.mem_append_right _ (List.mem_append_left _ (List.mem_of_getElem? (i := 164) rfl))) rfl
theorem zw_405 : (Jvm.Cond.instanceMethod ({ cls := "java/lang/IllegalStateException", name := "<init>", desc := "(Ljava/lang/String;)V" } : Jvm.MethodName)) ∈ zB := zB1 (List.mem_append_right _ (List.mem_append_left _ (List.mem_of_getElem? (i := 165) rfl))) rfl
theorem zw_406 : (Jvm.Cond.code ({ cls := "java/lang/IllegalStateException", name := "<init>", desc := "(Ljava/lang/String;)V" } : Jvm.MethodName) prog_10_method_2_code (2 : Nat) (Option.none : Option Jvm.ClassFile.FieldType)) ∈ zB := zB1 (List.mem_append_right _ (List.mem_append_left _ (List.mem_of_getElem? (i := 166) rfl))) rfl
theorem zw_407 : (Jvm.Cond.methodLink "java/lang/IllegalStateException" (7 : Nat) ({ cls := "java/lang/RuntimeException", name := "<init>", desc := "(Ljava/lang/String;)V" } : Jvm.MethodName)) ∈ zB := zB1 (List.mem_append_right _ (List.mem_append_left _ (List.mem_of_getElem? (i := 167) rfl))) rfl
theorem zw_408 : (Jvm.Cond.lays "java/lang/IllegalStateException" "java/lang/Throwable" "depth" "I") ∈ zB := zB1 (List.mem_append_right _ (List.mem_append_left _ (List.mem_of_getElem? (i := 168) rfl))) rfl
theorem zw_411 : (Jvm.Cond.classLink "TorsionDeskLaw" (24 : Nat) "TorsionDeskModel") ∈ zB := zB1 (List.mem_append_right _ (List.mem_append_left _ (List.mem_of_getElem? (i := 171) rfl))) rfl
theorem zw_412 : (Jvm.Cond.instantiable "TorsionDeskModel" (20 : Nat)) ∈ zB := zB1 (List.mem_append_right _ (List.mem_append_left _ (List.mem_of_getElem? (i := 172) rfl))) rfl
theorem zw_413 : (Jvm.Cond.methodLink "TorsionDeskLaw" (26 : Nat) ({ cls := "TorsionDeskModel", name := "<init>", desc := "()V" } : Jvm.MethodName)) ∈ zB := zB1 (List.mem_append_right _ (List.mem_append_left _ (List.mem_of_getElem? (i := 173) rfl))) rfl
theorem zw_414 : (Jvm.Cond.instanceMethod ({ cls := "TorsionDeskModel", name := "<init>", desc := "()V" } : Jvm.MethodName)) ∈ zB := zB1 (List.mem_append_right _ (List.mem_append_left _ (List.mem_of_getElem? (i := 174) rfl))) rfl
theorem zw_415 : (Jvm.Cond.code ({ cls := "TorsionDeskModel", name := "<init>", desc := "()V" } : Jvm.MethodName) prog_6_method_1_code (1 : Nat) (Option.none : Option Jvm.ClassFile.FieldType)) ∈ zB := zB1 (List.mem_append_right _ (List.mem_append_left _ (List.mem_of_getElem? (i := 175) rfl))) rfl
theorem zw_416 : (Jvm.Cond.methodLink "TorsionDeskModel" (1 : Nat) ({ cls := "java/lang/Object", name := "<init>", desc := "()V" } : Jvm.MethodName)) ∈ zB := zB1 (List.mem_append_right _ (List.mem_append_left _ (List.mem_of_getElem? (i := 176) rfl))) rfl
theorem zw_417 : (Jvm.Cond.fieldLink "TorsionDeskModel" (19 : Nat) "TorsionDeskModel" "thrown" "I") ∈ zB := zB1 (List.mem_append_right _ (List.mem_append_left _ (List.mem_of_getElem? (i := 177) rfl))) rfl
theorem zw_418 : (Jvm.Cond.fieldLink "TorsionDeskModel" (47 : Nat) "TorsionDeskModel" "there" "Z") ∈ zB := zB1 (List.mem_append_right _ (List.mem_append_left _ (List.mem_of_getElem? (i := 178) rfl))) rfl
theorem zw_419 : (Jvm.Cond.fieldLink "TorsionDeskModel" (51 : Nat) "TorsionDeskModel" "ca" "I") ∈ zB := zB1 (List.mem_append_right _ (List.mem_append_left _ (List.mem_of_getElem? (i := 179) rfl))) rfl
theorem zw_420 : (Jvm.Cond.fieldLink "TorsionDeskModel" (54 : Nat) "TorsionDeskModel" "cc" "I") ∈ zB := zB1 (List.mem_append_right _ (List.mem_append_left _ (List.mem_of_getElem? (i := 180) rfl))) rfl
theorem zw_421 : (Jvm.Cond.fieldLink "TorsionDeskModel" (29 : Nat) "TorsionDeskModel" "one" "J") ∈ zB := zB1 (List.mem_append_right _ (List.mem_append_left _ (List.mem_of_getElem? (i := 181) rfl))) rfl
theorem zw_422 : (Jvm.Cond.fieldLink "TorsionDeskModel" (33 : Nat) "TorsionDeskModel" "two" "J") ∈ zB := zB1 (List.mem_append_right _ (List.mem_append_left _ (List.mem_of_getElem? (i := 182) rfl))) rfl
theorem zw_423 : (Jvm.Cond.fieldLink "TorsionDeskModel" (36 : Nat) "TorsionDeskModel" "three" "J") ∈ zB := zB1 (List.mem_append_right _ (List.mem_append_left _ (List.mem_of_getElem? (i := 183) rfl))) rfl
theorem zw_424 : (Jvm.Cond.fieldLink "TorsionDeskModel" (57 : Nat) "TorsionDeskModel" "disc" "J") ∈ zB := zB1 (List.mem_append_right _ (List.mem_append_left _ (List.mem_of_getElem? (i := 184) rfl))) rfl
theorem zw_425 : (Jvm.Cond.fieldLink "TorsionDeskModel" (60 : Nat) "TorsionDeskModel" "points" "I") ∈ zB := zB1 (List.mem_append_right _ (List.mem_append_left _ (List.mem_of_getElem? (i := 185) rfl))) rfl
theorem zw_426 : (Jvm.Cond.fieldLink "TorsionDeskModel" (7 : Nat) "TorsionDeskModel" "px" "[I") ∈ zB := zB1 (List.mem_append_right _ (List.mem_append_left _ (List.mem_of_getElem? (i := 186) rfl))) rfl
theorem zw_427 : (Jvm.Cond.fieldLink "TorsionDeskModel" (13 : Nat) "TorsionDeskModel" "py" "[I") ∈ zB := zB1 (List.mem_append_right _ (List.mem_append_left _ (List.mem_of_getElem? (i := 187) rfl))) rfl
theorem zw_428 : (Jvm.Cond.fieldLink "TorsionDeskModel" (16 : Nat) "TorsionDeskModel" "order" "[I") ∈ zB := zB1 (List.mem_append_right _ (List.mem_append_left _ (List.mem_of_getElem? (i := 188) rfl))) rfl
theorem zw_429 : (Jvm.Cond.fieldLink "TorsionDeskModel" (85 : Nat) "TorsionDeskModel" "zero" "Z") ∈ zB := zB1 (List.mem_append_right _ (List.mem_append_left _ (List.mem_of_getElem? (i := 189) rfl))) rfl
theorem zw_430 : (Jvm.Cond.fieldLink "TorsionDeskModel" (88 : Nat) "TorsionDeskModel" "whole" "Z") ∈ zB := zB1 (List.mem_append_right _ (List.mem_append_left _ (List.mem_of_getElem? (i := 190) rfl))) rfl
theorem zw_431 : (Jvm.Cond.fieldLink "TorsionDeskModel" (79 : Nat) "TorsionDeskModel" "sx" "J") ∈ zB := zB1 (List.mem_append_right _ (List.mem_append_left _ (List.mem_of_getElem? (i := 191) rfl))) rfl
theorem zw_432 : (Jvm.Cond.fieldLink "TorsionDeskModel" (82 : Nat) "TorsionDeskModel" "sy" "J") ∈ zB := zB1 (List.mem_append_right _ (List.mem_append_left _ (List.mem_of_getElem? (i := 192) rfl))) rfl
theorem zw_433 : (Jvm.Cond.fieldLink "TorsionDeskModel" (111 : Nat) "TorsionDeskModel" "rows" "I") ∈ zB := zB1 (List.mem_append_right _ (List.mem_append_left _ (List.mem_of_getElem? (i := 193) rfl))) rfl
theorem zw_434 : (Jvm.Cond.fieldLink "TorsionDeskModel" (114 : Nat) "TorsionDeskModel" "columns" "I") ∈ zB := zB1 (List.mem_append_right _ (List.mem_append_left _ (List.mem_of_getElem? (i := 194) rfl))) rfl
theorem zw_435 : (Jvm.Cond.fieldLink "TorsionDeskModel" (120 : Nat) "TorsionDeskModel" "first" "I") ∈ zB := zB1 (List.mem_append_right _ (List.mem_append_left _ (List.mem_of_getElem? (i := 195) rfl))) rfl
theorem zw_436 : (Jvm.Cond.fieldLink "TorsionDeskModel" (117 : Nat) "TorsionDeskModel" "second" "I") ∈ zB := zB1 (List.mem_append_right _ (List.mem_append_left _ (List.mem_of_getElem? (i := 196) rfl))) rfl
theorem zw_437 : (Jvm.Cond.lays "TorsionDeskModel" "TorsionDeskModel" "thrown" "I") ∈ zB := zB1 (List.mem_append_right _ (List.mem_append_left _ (List.mem_of_getElem? (i := 197) rfl))) rfl
theorem zw_439 : (Jvm.Cond.lays "TorsionDeskModel" "TorsionDeskModel" "there" "Z") ∈ zB := zB1 (List.mem_append_right _ (List.mem_append_left _ (List.mem_of_getElem? (i := 199) rfl))) rfl
theorem zw_441 : (Jvm.Cond.lays "TorsionDeskModel" "TorsionDeskModel" "ca" "I") ∈ zB := zB1 (List.mem_append_right _ (List.mem_append_left _ (List.mem_of_getElem? (i := 201) rfl))) rfl
theorem zw_443 : (Jvm.Cond.lays "TorsionDeskModel" "TorsionDeskModel" "cc" "I") ∈ zB := zB1 (List.mem_append_right _ (List.mem_append_left _ (List.mem_of_getElem? (i := 203) rfl))) rfl
theorem zw_445 : (Jvm.Cond.lays "TorsionDeskModel" "TorsionDeskModel" "one" "J") ∈ zB := zB1 (List.mem_append_right _ (List.mem_append_left _ (List.mem_of_getElem? (i := 205) rfl))) rfl
theorem zw_447 : (Jvm.Cond.lays "TorsionDeskModel" "TorsionDeskModel" "two" "J") ∈ zB := zB1 (List.mem_append_right _ (List.mem_append_left _ (List.mem_of_getElem? (i := 207) rfl))) rfl
theorem zw_449 : (Jvm.Cond.lays "TorsionDeskModel" "TorsionDeskModel" "three" "J") ∈ zB := zB1 (List.mem_append_right _ (List.mem_append_left _ (List.mem_of_getElem? (i := 209) rfl))) rfl
theorem zw_451 : (Jvm.Cond.lays "TorsionDeskModel" "TorsionDeskModel" "disc" "J") ∈ zB := zB1 (List.mem_append_right _ (List.mem_append_left _ (List.mem_of_getElem? (i := 211) rfl))) rfl
theorem zw_453 : (Jvm.Cond.lays "TorsionDeskModel" "TorsionDeskModel" "points" "I") ∈ zB := zB1 (List.mem_append_right _ (List.mem_append_left _ (List.mem_of_getElem? (i := 213) rfl))) rfl
theorem zw_455 : (Jvm.Cond.laysFinal "TorsionDeskModel" "TorsionDeskModel" "px" "[I") ∈ zB := zB1 (List.mem_append_right _ (List.mem_append_left _ (List.mem_of_getElem? (i := 215) rfl))) rfl
theorem zw_457 : (Jvm.Cond.laysFinal "TorsionDeskModel" "TorsionDeskModel" "py" "[I") ∈ zB := zB1 (List.mem_append_right _ (List.mem_append_left _ (List.mem_of_getElem? (i := 217) rfl))) rfl
theorem zw_459 : (Jvm.Cond.laysFinal "TorsionDeskModel" "TorsionDeskModel" "order" "[I") ∈ zB := zB1 (List.mem_append_right _ (List.mem_append_left _ (List.mem_of_getElem? (i := 219) rfl))) rfl
theorem zw_461 : (Jvm.Cond.lays "TorsionDeskModel" "TorsionDeskModel" "zero" "Z") ∈ zB := zB1 (List.mem_append_right _ (List.mem_append_left _ (List.mem_of_getElem? (i := 221) rfl))) rfl
theorem zw_463 : (Jvm.Cond.lays "TorsionDeskModel" "TorsionDeskModel" "whole" "Z") ∈ zB := zB1 (List.mem_append_right _ (List.mem_append_left _ (List.mem_of_getElem? (i := 223) rfl))) rfl
theorem zw_465 : (Jvm.Cond.lays "TorsionDeskModel" "TorsionDeskModel" "sx" "J") ∈ zB := zB1 (List.mem_append_right _ (List.mem_append_left _ (List.mem_of_getElem? (i := 225) rfl))) rfl
theorem zw_467 : (Jvm.Cond.lays "TorsionDeskModel" "TorsionDeskModel" "sy" "J") ∈ zB := zB1 (List.mem_append_right _ (List.mem_append_left _ (List.mem_of_getElem? (i := 227) rfl))) rfl
theorem zw_469 : (Jvm.Cond.lays "TorsionDeskModel" "TorsionDeskModel" "rows" "I") ∈ zB := zB1 (List.mem_append_right _ (List.mem_append_left _ (List.mem_of_getElem? (i := 229) rfl))) rfl
theorem zw_471 : (Jvm.Cond.lays "TorsionDeskModel" "TorsionDeskModel" "columns" "I") ∈ zB := zB1 (List.mem_append_right _ (List.mem_append_left _ (List.mem_of_getElem? (i := 231) rfl))) rfl
theorem zw_473 : (Jvm.Cond.lays "TorsionDeskModel" "TorsionDeskModel" "first" "I") ∈ zB := zB1 (List.mem_append_right _ (List.mem_append_left _ (List.mem_of_getElem? (i := 233) rfl))) rfl
theorem zw_475 : (Jvm.Cond.lays "TorsionDeskModel" "TorsionDeskModel" "second" "I") ∈ zB := zB1 (List.mem_append_right _ (List.mem_append_left _ (List.mem_of_getElem? (i := 235) rfl))) rfl
theorem zw_478 : (Jvm.Cond.methodLink "TorsionDeskLaw" (33 : Nat) ({ cls := "TorsionDeskModel", name := "thrown", desc := "()I" } : Jvm.MethodName)) ∈ zB := zB1 (List.mem_append_right _ (List.mem_append_left _ (List.mem_of_getElem? (i := 238) rfl))) rfl
theorem zw_479 : (Jvm.Cond.instanceMethod ({ cls := "TorsionDeskModel", name := "thrown", desc := "()I" } : Jvm.MethodName)) ∈ zB := zB1 (List.mem_append_right _ (List.mem_append_left _ (List.mem_of_getElem? (i := 239) rfl))) rfl
theorem zw_480 : (Jvm.Cond.selects "TorsionDeskModel" ({ cls := "TorsionDeskModel", name := "thrown", desc := "()I" } : Jvm.MethodName) ({ cls := "TorsionDeskModel", name := "thrown", desc := "()I" } : Jvm.MethodName)) ∈ zB := zB1 (List.mem_append_right _ (List.mem_append_right _ (List.mem_of_getElem? (i := 0) rfl))) rfl
theorem zw_481 : (Jvm.Cond.code ({ cls := "TorsionDeskModel", name := "thrown", desc := "()I" } : Jvm.MethodName) prog_6_method_2_code (1 : Nat) (Option.some Jvm.ClassFile.FieldType.int)) ∈ zB := zB1 (List.mem_append_right _ (List.mem_append_right _ (List.mem_of_getElem? (i := 1) rfl))) rfl
theorem zw_482 : (Jvm.Cond.methodLink "TorsionDeskLaw" (32 : Nat) ({ cls := "TorsionDeskModel", name := "curve", desc := "(IIIII)I" } : Jvm.MethodName)) ∈ zB := zB1 (List.mem_append_right _ (List.mem_append_right _ (List.mem_of_getElem? (i := 2) rfl))) rfl
theorem zw_483 : (Jvm.Cond.instanceMethod ({ cls := "TorsionDeskModel", name := "curve", desc := "(IIIII)I" } : Jvm.MethodName)) ∈ zB := zB1 (List.mem_append_right _ (List.mem_append_right _ (List.mem_of_getElem? (i := 3) rfl))) rfl
theorem zw_484 : (Jvm.Cond.selects "TorsionDeskModel" ({ cls := "TorsionDeskModel", name := "curve", desc := "(IIIII)I" } : Jvm.MethodName) ({ cls := "TorsionDeskModel", name := "curve", desc := "(IIIII)I" } : Jvm.MethodName)) ∈ zB := zB1 (List.mem_append_right _ (List.mem_append_right _ (List.mem_of_getElem? (i := 4) rfl))) rfl
theorem zw_485 : (Jvm.Cond.code ({ cls := "TorsionDeskModel", name := "curve", desc := "(IIIII)I" } : Jvm.MethodName) prog_6_method_6_code (17 : Nat) (Option.some Jvm.ClassFile.FieldType.int)) ∈ zB := zB1 (List.mem_append_right _ (List.mem_append_right _ (List.mem_of_getElem? (i := 5) rfl))) rfl
theorem zw_486 : (Jvm.Cond.methodLink "TorsionDeskModel" (39 : Nat) ({ cls := "TorsionDeskModel", name := "small", desc := "(I)Z" } : Jvm.MethodName)) ∈ zB := zB1 (List.mem_append_right _ (List.mem_append_right _ (List.mem_of_getElem? (i := 6) rfl))) rfl
theorem zw_487 : (Jvm.Cond.static ({ cls := "TorsionDeskModel", name := "small", desc := "(I)Z" } : Jvm.MethodName)) ∈ zB := zB1 (List.mem_append_right _ (List.mem_append_right _ (List.mem_of_getElem? (i := 7) rfl))) rfl
theorem zw_488 : (Jvm.Cond.code ({ cls := "TorsionDeskModel", name := "small", desc := "(I)Z" } : Jvm.MethodName) prog_6_method_5_code (1 : Nat) (Option.some Jvm.ClassFile.FieldType.boolean)) ∈ zB := zB1 (List.mem_append_right _ (List.mem_append_right _ (List.mem_of_getElem? (i := 8) rfl))) rfl
theorem zw_489 : (Jvm.Cond.methodLink "TorsionDeskModel" (43 : Nat) ({ cls := "TorsionDeskModel", name := "discriminantOf", desc := "(JJJ)J" } : Jvm.MethodName)) ∈ zB := zB1 (List.mem_append_right _ (List.mem_append_right _ (List.mem_of_getElem? (i := 9) rfl))) rfl
theorem zw_490 : (Jvm.Cond.static ({ cls := "TorsionDeskModel", name := "discriminantOf", desc := "(JJJ)J" } : Jvm.MethodName)) ∈ zB := zB1 (List.mem_append_right _ (List.mem_append_right _ (List.mem_of_getElem? (i := 10) rfl))) rfl
theorem zw_491 : (Jvm.Cond.code ({ cls := "TorsionDeskModel", name := "discriminantOf", desc := "(JJJ)J" } : Jvm.MethodName) prog_6_method_3_code (6 : Nat) (Option.some Jvm.ClassFile.FieldType.long)) ∈ zB := zB1 (List.mem_append_right _ (List.mem_append_right _ (List.mem_of_getElem? (i := 11) rfl))) rfl
theorem zw_492 : (Jvm.Cond.constantLong "TorsionDeskModel" (23 : Nat) (4 : Int64)) ∈ zB := zB1 (List.mem_append_right _ (List.mem_append_right _ (List.mem_of_getElem? (i := 12) rfl))) rfl
theorem zw_493 : (Jvm.Cond.constantLong "TorsionDeskModel" (25 : Nat) (27 : Int64)) ∈ zB := zB1 (List.mem_append_right _ (List.mem_append_right _ (List.mem_of_getElem? (i := 13) rfl))) rfl
theorem zw_494 : (Jvm.Cond.constantLong "TorsionDeskModel" (27 : Nat) (18 : Int64)) ∈ zB := zB1 (List.mem_append_right _ (List.mem_append_right _ (List.mem_of_getElem? (i := 14) rfl))) rfl
theorem zw_495 : (Jvm.Cond.methodLink "TorsionDeskModel" (63 : Nat) ({ cls := "TorsionDeskModel", name := "cubic", desc := "(J)J" } : Jvm.MethodName)) ∈ zB := zB1 (List.mem_append_right _ (List.mem_append_right _ (List.mem_of_getElem? (i := 15) rfl))) rfl
theorem zw_497 : (Jvm.Cond.instanceMethod ({ cls := "TorsionDeskModel", name := "cubic", desc := "(J)J" } : Jvm.MethodName)) ∈ zB := zB1 (List.mem_append_right _ (List.mem_append_right _ (List.mem_of_getElem? (i := 17) rfl))) rfl
theorem zw_498 : (Jvm.Cond.code ({ cls := "TorsionDeskModel", name := "cubic", desc := "(J)J" } : Jvm.MethodName) prog_6_method_4_code (3 : Nat) (Option.some Jvm.ClassFile.FieldType.long)) ∈ zB := zB1 (List.mem_append_right _ (List.mem_append_right _ (List.mem_of_getElem? (i := 18) rfl))) rfl
theorem zw_499 : (Jvm.Cond.methodLink "TorsionDeskModel" (67 : Nat) ({ cls := "TorsionDeskModel", name := "take", desc := "(II)V" } : Jvm.MethodName)) ∈ zB := zB1 (List.mem_append_right _ (List.mem_append_right _ (List.mem_of_getElem? (i := 19) rfl))) rfl
theorem zw_501 : (Jvm.Cond.instanceMethod ({ cls := "TorsionDeskModel", name := "take", desc := "(II)V" } : Jvm.MethodName)) ∈ zB := zB1 (List.mem_append_right _ (List.mem_append_right _ (List.mem_of_getElem? (i := 21) rfl))) rfl
theorem zw_502 : (Jvm.Cond.code ({ cls := "TorsionDeskModel", name := "take", desc := "(II)V" } : Jvm.MethodName) prog_6_method_8_code (4 : Nat) (Option.none : Option Jvm.ClassFile.FieldType)) ∈ zB := zB1 (List.mem_append_right _ (List.mem_append_right _ (List.mem_of_getElem? (i := 22) rfl))) rfl
theorem zw_503 : (Jvm.Cond.methodLink "TorsionDeskModel" (91 : Nat) ({ cls := "TorsionDeskModel", name := "add", desc := "(ZJJJJ)V" } : Jvm.MethodName)) ∈ zB := zB1 (List.mem_append_right _ (List.mem_append_right _ (List.mem_of_getElem? (i := 23) rfl))) rfl
theorem zw_505 : (Jvm.Cond.instanceMethod ({ cls := "TorsionDeskModel", name := "add", desc := "(ZJJJJ)V" } : Jvm.MethodName)) ∈ zB := zB1 (List.mem_append_right _ (List.mem_append_right _ (List.mem_of_getElem? (i := 25) rfl))) rfl
theorem zw_506 : (Jvm.Cond.code ({ cls := "TorsionDeskModel", name := "add", desc := "(ZJJJJ)V" } : Jvm.MethodName) prog_6_method_9_code (19 : Nat) (Option.none : Option Jvm.ClassFile.FieldType)) ∈ zB := zB1 (List.mem_append_right _ (List.mem_append_right _ (List.mem_of_getElem? (i := 26) rfl))) rfl
theorem zw_507 : (Jvm.Cond.constantLong "TorsionDeskModel" (95 : Nat) (3 : Int64)) ∈ zB := zB1 (List.mem_append_right _ (List.mem_append_right _ (List.mem_of_getElem? (i := 27) rfl))) rfl
theorem zw_508 : (Jvm.Cond.constantLong "TorsionDeskModel" (97 : Nat) (2 : Int64)) ∈ zB := zB1 (List.mem_append_right _ (List.mem_append_right _ (List.mem_of_getElem? (i := 28) rfl))) rfl
theorem zw_509 : (Jvm.Cond.constantLong "TorsionDeskModel" (99 : Nat) (-5000 : Int64)) ∈ zB := zB1 (List.mem_append_right _ (List.mem_append_right _ (List.mem_of_getElem? (i := 29) rfl))) rfl
theorem zw_510 : (Jvm.Cond.constantLong "TorsionDeskModel" (101 : Nat) (5000 : Int64)) ∈ zB := zB1 (List.mem_append_right _ (List.mem_append_right _ (List.mem_of_getElem? (i := 30) rfl))) rfl
theorem zw_511 : (Jvm.Cond.methodLink "TorsionDeskModel" (71 : Nat) ({ cls := "TorsionDeskModel", name := "root", desc := "(J)I" } : Jvm.MethodName)) ∈ zB := zB1 (List.mem_append_right _ (List.mem_append_right _ (List.mem_of_getElem? (i := 31) rfl))) rfl
theorem zw_512 : (Jvm.Cond.static ({ cls := "TorsionDeskModel", name := "root", desc := "(J)I" } : Jvm.MethodName)) ∈ zB := zB1 (List.mem_append_right _ (List.mem_append_right _ (List.mem_of_getElem? (i := 32) rfl))) rfl
theorem zw_513 : (Jvm.Cond.code ({ cls := "TorsionDeskModel", name := "root", desc := "(J)I" } : Jvm.MethodName) prog_6_method_7_code (6 : Nat) (Option.some Jvm.ClassFile.FieldType.int)) ∈ zB := zB1 (List.mem_append_right _ (List.mem_append_right _ (List.mem_of_getElem? (i := 33) rfl))) rfl
theorem zw_514 : (Jvm.Cond.constant "TorsionDeskModel" (78 : Nat) (65536 : Int32)) ∈ zB := zB1 (List.mem_append_right _ (List.mem_append_right _ (List.mem_of_getElem? (i := 34) rfl))) rfl
theorem zw_515 : (Jvm.Cond.methodLink "TorsionDeskModel" (75 : Nat) ({ cls := "TorsionDeskModel", name := "structure", desc := "()V" } : Jvm.MethodName)) ∈ zB := zB1 (List.mem_append_right _ (List.mem_append_right _ (List.mem_of_getElem? (i := 35) rfl))) rfl
theorem zw_517 : (Jvm.Cond.instanceMethod ({ cls := "TorsionDeskModel", name := "structure", desc := "()V" } : Jvm.MethodName)) ∈ zB := zB1 (List.mem_append_right _ (List.mem_append_right _ (List.mem_of_getElem? (i := 37) rfl))) rfl
theorem zw_518 : (Jvm.Cond.code ({ cls := "TorsionDeskModel", name := "structure", desc := "()V" } : Jvm.MethodName) prog_6_method_14_code (2 : Nat) (Option.none : Option Jvm.ClassFile.FieldType)) ∈ zB := zB1 (List.mem_append_right _ (List.mem_append_right _ (List.mem_of_getElem? (i := 38) rfl))) rfl
theorem zw_519 : (Jvm.Cond.methodLink "TorsionDeskModel" (123 : Nat) ({ cls := "TorsionDeskModel", name := "makes", desc := "(II)Z" } : Jvm.MethodName)) ∈ zB := zB1 (List.mem_append_right _ (List.mem_append_right _ (List.mem_of_getElem? (i := 39) rfl))) rfl
theorem zw_521 : (Jvm.Cond.instanceMethod ({ cls := "TorsionDeskModel", name := "makes", desc := "(II)Z" } : Jvm.MethodName)) ∈ zB := zB1 (List.mem_append_right _ (List.mem_append_right _ (List.mem_of_getElem? (i := 41) rfl))) rfl
theorem zw_522 : (Jvm.Cond.code ({ cls := "TorsionDeskModel", name := "makes", desc := "(II)Z" } : Jvm.MethodName) prog_6_method_13_code (9 : Nat) (Option.some Jvm.ClassFile.FieldType.boolean)) ∈ zB := zB1 (List.mem_append_right _ (List.mem_append_right _ (List.mem_of_getElem? (i := 42) rfl))) rfl
theorem zw_523 : (Jvm.Cond.methodLink "TorsionDeskModel" (107 : Nat) ({ cls := "TorsionDeskModel", name := "sumOf", desc := "(II)I" } : Jvm.MethodName)) ∈ zB := zB1 (List.mem_append_right _ (List.mem_append_right _ (List.mem_of_getElem? (i := 43) rfl))) rfl
theorem zw_525 : (Jvm.Cond.instanceMethod ({ cls := "TorsionDeskModel", name := "sumOf", desc := "(II)I" } : Jvm.MethodName)) ∈ zB := zB1 (List.mem_append_right _ (List.mem_append_right _ (List.mem_of_getElem? (i := 45) rfl))) rfl
theorem zw_526 : (Jvm.Cond.code ({ cls := "TorsionDeskModel", name := "sumOf", desc := "(II)I" } : Jvm.MethodName) prog_6_method_11_code (3 : Nat) (Option.some Jvm.ClassFile.FieldType.int)) ∈ zB := zB1 (List.mem_append_right _ (List.mem_append_right _ (List.mem_of_getElem? (i := 46) rfl))) rfl
theorem zw_527 : (Jvm.Cond.methodLink "TorsionDeskModel" (103 : Nat) ({ cls := "TorsionDeskModel", name := "number", desc := "(JJ)I" } : Jvm.MethodName)) ∈ zB := zB1 (List.mem_append_right _ (List.mem_append_right _ (List.mem_of_getElem? (i := 47) rfl))) rfl
theorem zw_529 : (Jvm.Cond.instanceMethod ({ cls := "TorsionDeskModel", name := "number", desc := "(JJ)I" } : Jvm.MethodName)) ∈ zB := zB1 (List.mem_append_right _ (List.mem_append_right _ (List.mem_of_getElem? (i := 49) rfl))) rfl
theorem zw_530 : (Jvm.Cond.code ({ cls := "TorsionDeskModel", name := "number", desc := "(JJ)I" } : Jvm.MethodName) prog_6_method_10_code (6 : Nat) (Option.some Jvm.ClassFile.FieldType.int)) ∈ zB := zB1 (List.mem_append_right _ (List.mem_append_right _ (List.mem_of_getElem? (i := 50) rfl))) rfl
theorem zw_531 : (Jvm.Cond.methodLink "TorsionDeskLaw" (70 : Nat) ({ cls := "TorsionDeskModel", name := "structure", desc := "(I)I" } : Jvm.MethodName)) ∈ zB := zB1 (List.mem_append_right _ (List.mem_append_right _ (List.mem_of_getElem? (i := 51) rfl))) rfl
theorem zw_532 : (Jvm.Cond.instanceMethod ({ cls := "TorsionDeskModel", name := "structure", desc := "(I)I" } : Jvm.MethodName)) ∈ zB := zB1 (List.mem_append_right _ (List.mem_append_right _ (List.mem_of_getElem? (i := 52) rfl))) rfl
theorem zw_533 : (Jvm.Cond.selects "TorsionDeskModel" ({ cls := "TorsionDeskModel", name := "structure", desc := "(I)I" } : Jvm.MethodName) ({ cls := "TorsionDeskModel", name := "structure", desc := "(I)I" } : Jvm.MethodName)) ∈ zB := zB1 (List.mem_append_right _ (List.mem_append_right _ (List.mem_of_getElem? (i := 53) rfl))) rfl
theorem zw_534 : (Jvm.Cond.code ({ cls := "TorsionDeskModel", name := "structure", desc := "(I)I" } : Jvm.MethodName) prog_6_method_15_code (2 : Nat) (Option.some Jvm.ClassFile.FieldType.int)) ∈ zB := zB1 (List.mem_append_right _ (List.mem_append_right _ (List.mem_of_getElem? (i := 54) rfl))) rfl
theorem zw_535 : (Jvm.Cond.methodLink "TorsionDeskLaw" (41 : Nat) ({ cls := "TorsionDeskModel", name := "discriminant", desc := "()J" } : Jvm.MethodName)) ∈ zB := zB1 (List.mem_append_right _ (List.mem_append_right _ (List.mem_of_getElem? (i := 55) rfl))) rfl
theorem zw_536 : (Jvm.Cond.instanceMethod ({ cls := "TorsionDeskModel", name := "discriminant", desc := "()J" } : Jvm.MethodName)) ∈ zB := zB1 (List.mem_append_right _ (List.mem_append_right _ (List.mem_of_getElem? (i := 56) rfl))) rfl
theorem zw_537 : (Jvm.Cond.selects "TorsionDeskModel" ({ cls := "TorsionDeskModel", name := "discriminant", desc := "()J" } : Jvm.MethodName) ({ cls := "TorsionDeskModel", name := "discriminant", desc := "()J" } : Jvm.MethodName)) ∈ zB := zB1 (List.mem_append_right _ (List.mem_append_right _ (List.mem_of_getElem? (i := 57) rfl))) rfl
theorem zw_538 : (Jvm.Cond.code ({ cls := "TorsionDeskModel", name := "discriminant", desc := "()J" } : Jvm.MethodName) prog_6_method_16_code (1 : Nat) (Option.some Jvm.ClassFile.FieldType.long)) ∈ zB := zB1 (List.mem_append_right _ (List.mem_append_right _ (List.mem_of_getElem? (i := 58) rfl))) rfl
theorem zw_539 : (Jvm.Cond.methodLink "TorsionDeskLaw" (45 : Nat) ({ cls := "TorsionDeskModel", name := "candidate", desc := "(I)I" } : Jvm.MethodName)) ∈ zB := zB1 (List.mem_append_right _ (List.mem_append_right _ (List.mem_of_getElem? (i := 59) rfl))) rfl
theorem zw_540 : (Jvm.Cond.instanceMethod ({ cls := "TorsionDeskModel", name := "candidate", desc := "(I)I" } : Jvm.MethodName)) ∈ zB := zB1 (List.mem_append_right _ (List.mem_append_right _ (List.mem_of_getElem? (i := 60) rfl))) rfl
theorem zw_541 : (Jvm.Cond.selects "TorsionDeskModel" ({ cls := "TorsionDeskModel", name := "candidate", desc := "(I)I" } : Jvm.MethodName) ({ cls := "TorsionDeskModel", name := "candidate", desc := "(I)I" } : Jvm.MethodName)) ∈ zB := zB1 (List.mem_append_right _ (List.mem_append_right _ (List.mem_of_getElem? (i := 61) rfl))) rfl
theorem zw_542 : (Jvm.Cond.code ({ cls := "TorsionDeskModel", name := "candidate", desc := "(I)I" } : Jvm.MethodName) prog_6_method_17_code (7 : Nat) (Option.some Jvm.ClassFile.FieldType.int)) ∈ zB := zB1 (List.mem_append_right _ (List.mem_append_right _ (List.mem_of_getElem? (i := 62) rfl))) rfl
theorem zw_543 : (Jvm.Cond.methodLink "TorsionDeskLaw" (49 : Nat) ({ cls := "TorsionDeskModel", name := "points", desc := "()I" } : Jvm.MethodName)) ∈ zB := zB1 (List.mem_append_right _ (List.mem_append_right _ (List.mem_of_getElem? (i := 63) rfl))) rfl
theorem zw_544 : (Jvm.Cond.instanceMethod ({ cls := "TorsionDeskModel", name := "points", desc := "()I" } : Jvm.MethodName)) ∈ zB := zB1 (List.mem_append_right _ (List.mem_append_right _ (List.mem_of_getElem? (i := 64) rfl))) rfl
theorem zw_545 : (Jvm.Cond.selects "TorsionDeskModel" ({ cls := "TorsionDeskModel", name := "points", desc := "()I" } : Jvm.MethodName) ({ cls := "TorsionDeskModel", name := "points", desc := "()I" } : Jvm.MethodName)) ∈ zB := zB1 (List.mem_append_right _ (List.mem_append_right _ (List.mem_of_getElem? (i := 65) rfl))) rfl
theorem zw_546 : (Jvm.Cond.code ({ cls := "TorsionDeskModel", name := "points", desc := "()I" } : Jvm.MethodName) prog_6_method_18_code (1 : Nat) (Option.some Jvm.ClassFile.FieldType.int)) ∈ zB := zB1 (List.mem_append_right _ (List.mem_append_right _ (List.mem_of_getElem? (i := 66) rfl))) rfl
theorem zw_547 : (Jvm.Cond.methodLink "TorsionDeskLaw" (54 : Nat) ({ cls := "TorsionDeskModel", name := "point", desc := "(II)I" } : Jvm.MethodName)) ∈ zB := zB1 (List.mem_append_right _ (List.mem_append_right _ (List.mem_of_getElem? (i := 67) rfl))) rfl
theorem zw_548 : (Jvm.Cond.instanceMethod ({ cls := "TorsionDeskModel", name := "point", desc := "(II)I" } : Jvm.MethodName)) ∈ zB := zB1 (List.mem_append_right _ (List.mem_append_right _ (List.mem_of_getElem? (i := 68) rfl))) rfl
theorem zw_549 : (Jvm.Cond.selects "TorsionDeskModel" ({ cls := "TorsionDeskModel", name := "point", desc := "(II)I" } : Jvm.MethodName) ({ cls := "TorsionDeskModel", name := "point", desc := "(II)I" } : Jvm.MethodName)) ∈ zB := zB1 (List.mem_append_right _ (List.mem_append_right _ (List.mem_of_getElem? (i := 69) rfl))) rfl
theorem zw_550 : (Jvm.Cond.code ({ cls := "TorsionDeskModel", name := "point", desc := "(II)I" } : Jvm.MethodName) prog_6_method_21_code (6 : Nat) (Option.some Jvm.ClassFile.FieldType.int)) ∈ zB := zB1 (List.mem_append_right _ (List.mem_append_right _ (List.mem_of_getElem? (i := 70) rfl))) rfl
theorem zw_551 : (Jvm.Cond.methodLink "TorsionDeskModel" (127 : Nat) ({ cls := "TorsionDeskModel", name := "isPoint", desc := "(I)Z" } : Jvm.MethodName)) ∈ zB := zB1 (List.mem_append_right _ (List.mem_append_right _ (List.mem_of_getElem? (i := 71) rfl))) rfl
theorem zw_553 : (Jvm.Cond.instanceMethod ({ cls := "TorsionDeskModel", name := "isPoint", desc := "(I)Z" } : Jvm.MethodName)) ∈ zB := zB1 (List.mem_append_right _ (List.mem_append_right _ (List.mem_of_getElem? (i := 73) rfl))) rfl
theorem zw_554 : (Jvm.Cond.code ({ cls := "TorsionDeskModel", name := "isPoint", desc := "(I)Z" } : Jvm.MethodName) prog_6_method_19_code (2 : Nat) (Option.some Jvm.ClassFile.FieldType.boolean)) ∈ zB := zB1 (List.mem_append_right _ (List.mem_append_right _ (List.mem_of_getElem? (i := 74) rfl))) rfl
theorem zw_555 : (Jvm.Cond.methodLink "TorsionDeskModel" (130 : Nat) ({ cls := "TorsionDeskModel", name := "common", desc := "(II)I" } : Jvm.MethodName)) ∈ zB := zB1 (List.mem_append_right _ (List.mem_append_right _ (List.mem_of_getElem? (i := 75) rfl))) rfl
theorem zw_556 : (Jvm.Cond.static ({ cls := "TorsionDeskModel", name := "common", desc := "(II)I" } : Jvm.MethodName)) ∈ zB := zB1 (List.mem_append_right _ (List.mem_append_right _ (List.mem_of_getElem? (i := 76) rfl))) rfl
theorem zw_557 : (Jvm.Cond.code ({ cls := "TorsionDeskModel", name := "common", desc := "(II)I" } : Jvm.MethodName) prog_6_method_20_code (5 : Nat) (Option.some Jvm.ClassFile.FieldType.int)) ∈ zB := zB1 (List.mem_append_right _ (List.mem_append_right _ (List.mem_of_getElem? (i := 77) rfl))) rfl
theorem zw_558 : (Jvm.Cond.methodLink "TorsionDeskLaw" (58 : Nat) ({ cls := "TorsionDeskModel", name := "find", desc := "(II)I" } : Jvm.MethodName)) ∈ zB := zB1 (List.mem_append_right _ (List.mem_append_right _ (List.mem_of_getElem? (i := 78) rfl))) rfl
theorem zw_559 : (Jvm.Cond.instanceMethod ({ cls := "TorsionDeskModel", name := "find", desc := "(II)I" } : Jvm.MethodName)) ∈ zB := zB1 (List.mem_append_right _ (List.mem_append_right _ (List.mem_of_getElem? (i := 79) rfl))) rfl
theorem zw_560 : (Jvm.Cond.selects "TorsionDeskModel" ({ cls := "TorsionDeskModel", name := "find", desc := "(II)I" } : Jvm.MethodName) ({ cls := "TorsionDeskModel", name := "find", desc := "(II)I" } : Jvm.MethodName)) ∈ zB := zB1 (List.mem_append_right _ (List.mem_append_right _ (List.mem_of_getElem? (i := 80) rfl))) rfl
theorem zw_561 : (Jvm.Cond.code ({ cls := "TorsionDeskModel", name := "find", desc := "(II)I" } : Jvm.MethodName) prog_6_method_22_code (3 : Nat) (Option.some Jvm.ClassFile.FieldType.int)) ∈ zB := zB1 (List.mem_append_right _ (List.mem_append_right _ (List.mem_of_getElem? (i := 81) rfl))) rfl
theorem zw_562 : (Jvm.Cond.methodLink "TorsionDeskLaw" (62 : Nat) ({ cls := "TorsionDeskModel", name := "sum", desc := "(II)I" } : Jvm.MethodName)) ∈ zB := zB1 (List.mem_append_right _ (List.mem_append_right _ (List.mem_of_getElem? (i := 82) rfl))) rfl
theorem zw_563 : (Jvm.Cond.instanceMethod ({ cls := "TorsionDeskModel", name := "sum", desc := "(II)I" } : Jvm.MethodName)) ∈ zB := zB1 (List.mem_append_right _ (List.mem_append_right _ (List.mem_of_getElem? (i := 83) rfl))) rfl
theorem zw_564 : (Jvm.Cond.selects "TorsionDeskModel" ({ cls := "TorsionDeskModel", name := "sum", desc := "(II)I" } : Jvm.MethodName) ({ cls := "TorsionDeskModel", name := "sum", desc := "(II)I" } : Jvm.MethodName)) ∈ zB := zB1 (List.mem_append_right _ (List.mem_append_right _ (List.mem_of_getElem? (i := 84) rfl))) rfl
theorem zw_565 : (Jvm.Cond.code ({ cls := "TorsionDeskModel", name := "sum", desc := "(II)I" } : Jvm.MethodName) prog_6_method_23_code (3 : Nat) (Option.some Jvm.ClassFile.FieldType.int)) ∈ zB := zB1 (List.mem_append_right _ (List.mem_append_right _ (List.mem_of_getElem? (i := 85) rfl))) rfl
theorem zw_566 : (Jvm.Cond.methodLink "TorsionDeskLaw" (66 : Nat) ({ cls := "TorsionDeskModel", name := "times", desc := "(II)I" } : Jvm.MethodName)) ∈ zB := zB1 (List.mem_append_right _ (List.mem_append_right _ (List.mem_of_getElem? (i := 86) rfl))) rfl
theorem zw_567 : (Jvm.Cond.instanceMethod ({ cls := "TorsionDeskModel", name := "times", desc := "(II)I" } : Jvm.MethodName)) ∈ zB := zB1 (List.mem_append_right _ (List.mem_append_right _ (List.mem_of_getElem? (i := 87) rfl))) rfl
theorem zw_568 : (Jvm.Cond.selects "TorsionDeskModel" ({ cls := "TorsionDeskModel", name := "times", desc := "(II)I" } : Jvm.MethodName) ({ cls := "TorsionDeskModel", name := "times", desc := "(II)I" } : Jvm.MethodName)) ∈ zB := zB1 (List.mem_append_right _ (List.mem_append_right _ (List.mem_of_getElem? (i := 88) rfl))) rfl
theorem zw_569 : (Jvm.Cond.code ({ cls := "TorsionDeskModel", name := "times", desc := "(II)I" } : Jvm.MethodName) prog_6_method_24_code (4 : Nat) (Option.some Jvm.ClassFile.FieldType.int)) ∈ zB := zB1 (List.mem_append_right _ (List.mem_append_right _ (List.mem_of_getElem? (i := 89) rfl))) rfl
theorem zw_570 : (Jvm.Cond.methodLink "TorsionDeskModel" (133 : Nat) ({ cls := "TorsionDeskModel", name := "multiple", desc := "(II)I" } : Jvm.MethodName)) ∈ zB := zB1 (List.mem_append_right _ (List.mem_append_right _ (List.mem_of_getElem? (i := 90) rfl))) rfl
theorem zw_572 : (Jvm.Cond.instanceMethod ({ cls := "TorsionDeskModel", name := "multiple", desc := "(II)I" } : Jvm.MethodName)) ∈ zB := zB1 (List.mem_append_right _ (List.mem_append_right _ (List.mem_of_getElem? (i := 92) rfl))) rfl
theorem zw_573 : (Jvm.Cond.code ({ cls := "TorsionDeskModel", name := "multiple", desc := "(II)I" } : Jvm.MethodName) prog_6_method_12_code (5 : Nat) (Option.some Jvm.ClassFile.FieldType.int)) ∈ zB := zB1 (List.mem_append_right _ (List.mem_append_right _ (List.mem_of_getElem? (i := 93) rfl))) rfl
theorem zw_574 : (Jvm.Cond.methodLink "TorsionDeskLaw" (74 : Nat) ({ cls := "TorsionDeskModel", name := "modulo", desc := "(I)I" } : Jvm.MethodName)) ∈ zB := zB1 (List.mem_append_right _ (List.mem_append_right _ (List.mem_of_getElem? (i := 94) rfl))) rfl
theorem zw_575 : (Jvm.Cond.instanceMethod ({ cls := "TorsionDeskModel", name := "modulo", desc := "(I)I" } : Jvm.MethodName)) ∈ zB := zB1 (List.mem_append_right _ (List.mem_append_right _ (List.mem_of_getElem? (i := 95) rfl))) rfl
theorem zw_576 : (Jvm.Cond.selects "TorsionDeskModel" ({ cls := "TorsionDeskModel", name := "modulo", desc := "(I)I" } : Jvm.MethodName) ({ cls := "TorsionDeskModel", name := "modulo", desc := "(I)I" } : Jvm.MethodName)) ∈ zB := zB1 (List.mem_append_right _ (List.mem_append_right _ (List.mem_of_getElem? (i := 96) rfl))) rfl
theorem zw_577 : (Jvm.Cond.code ({ cls := "TorsionDeskModel", name := "modulo", desc := "(I)I" } : Jvm.MethodName) prog_6_method_27_code (2 : Nat) (Option.some Jvm.ClassFile.FieldType.int)) ∈ zB := zB1 (List.mem_append_right _ (List.mem_append_right _ (List.mem_of_getElem? (i := 97) rfl))) rfl
theorem zw_578 : (Jvm.Cond.methodLink "TorsionDeskModel" (136 : Nat) ({ cls := "TorsionDeskModel", name := "isPrime", desc := "(I)Z" } : Jvm.MethodName)) ∈ zB := zB1 (List.mem_append_right _ (List.mem_append_right _ (List.mem_of_getElem? (i := 98) rfl))) rfl
theorem zw_579 : (Jvm.Cond.static ({ cls := "TorsionDeskModel", name := "isPrime", desc := "(I)Z" } : Jvm.MethodName)) ∈ zB := zB1 (List.mem_append_right _ (List.mem_append_right _ (List.mem_of_getElem? (i := 99) rfl))) rfl
theorem zw_580 : (Jvm.Cond.code ({ cls := "TorsionDeskModel", name := "isPrime", desc := "(I)Z" } : Jvm.MethodName) prog_6_method_25_code (2 : Nat) (Option.some Jvm.ClassFile.FieldType.boolean)) ∈ zB := zB1 (List.mem_append_right _ (List.mem_append_right _ (List.mem_of_getElem? (i := 100) rfl))) rfl
theorem zw_581 : (Jvm.Cond.methodLink "TorsionDeskModel" (139 : Nat) ({ cls := "TorsionDeskModel", name := "counted", desc := "(I)I" } : Jvm.MethodName)) ∈ zB := zB1 (List.mem_append_right _ (List.mem_append_right _ (List.mem_of_getElem? (i := 101) rfl))) rfl
theorem zw_583 : (Jvm.Cond.instanceMethod ({ cls := "TorsionDeskModel", name := "counted", desc := "(I)I" } : Jvm.MethodName)) ∈ zB := zB1 (List.mem_append_right _ (List.mem_append_right _ (List.mem_of_getElem? (i := 103) rfl))) rfl
theorem zw_584 : (Jvm.Cond.code ({ cls := "TorsionDeskModel", name := "counted", desc := "(I)I" } : Jvm.MethodName) prog_6_method_26_code (6 : Nat) (Option.some Jvm.ClassFile.FieldType.int)) ∈ zB := zB1 (List.mem_append_right _ (List.mem_append_right _ (List.mem_of_getElem? (i := 104) rfl))) rfl
theorem zw_585 : (Jvm.Cond.methodLink "TorsionDeskLaw" (78 : Nat) ({ cls := "TorsionDeskModel", name := "bound", desc := "(I)I" } : Jvm.MethodName)) ∈ zB := zB1 (List.mem_append_right _ (List.mem_append_right _ (List.mem_of_getElem? (i := 105) rfl))) rfl
theorem zw_586 : (Jvm.Cond.instanceMethod ({ cls := "TorsionDeskModel", name := "bound", desc := "(I)I" } : Jvm.MethodName)) ∈ zB := zB1 (List.mem_append_right _ (List.mem_append_right _ (List.mem_of_getElem? (i := 106) rfl))) rfl
theorem zw_587 : (Jvm.Cond.selects "TorsionDeskModel" ({ cls := "TorsionDeskModel", name := "bound", desc := "(I)I" } : Jvm.MethodName) ({ cls := "TorsionDeskModel", name := "bound", desc := "(I)I" } : Jvm.MethodName)) ∈ zB := zB1 (List.mem_append_right _ (List.mem_append_right _ (List.mem_of_getElem? (i := 107) rfl))) rfl
theorem zw_588 : (Jvm.Cond.code ({ cls := "TorsionDeskModel", name := "bound", desc := "(I)I" } : Jvm.MethodName) prog_6_method_28_code (4 : Nat) (Option.some Jvm.ClassFile.FieldType.int)) ∈ zB := zB1 (List.mem_append_right _ (List.mem_append_right _ (List.mem_of_getElem? (i := 108) rfl))) rfl
theorem zw_589 : (Jvm.Cond.arrayClass Jvm.ClassFile.FieldType.long) ∈ zB := zB1 (List.mem_append_right _ (List.mem_append_right _ (List.mem_of_getElem? (i := 109) rfl))) rfl
theorem zv_fp_append : Cond.selects "TorsionDesk$FinitePoints" y_fp_append y_fp_append ∈ zB := zB2 (by decide +kernel) rfl
theorem zv_fp_collect : Cond.selects "TorsionDesk$FinitePoints" y_fp_collect y_fp_collect ∈ zB := zB2 (by decide +kernel) rfl
theorem zv_fp_isMultiple : Cond.selects "TorsionDesk$FinitePoints" y_fp_isMultiple y_fp_isMultiple ∈ zB := zB2 (by decide +kernel) rfl
theorem zv_fp_keepFinite : Cond.selects "TorsionDesk$FinitePoints" y_fp_keepFinite y_fp_keepFinite ∈ zB := zB2 (by decide +kernel) rfl
theorem zv_fp_meetsOnlyInZero : Cond.selects "TorsionDesk$FinitePoints" y_fp_meetsOnlyInZero y_fp_meetsOnlyInZero ∈ zB := zB2 (by decide +kernel) rfl
theorem zv_fp_orderOf : Cond.selects "TorsionDesk$FinitePoints" y_fp_orderOf y_fp_orderOf ∈ zB := zB2 (by decide +kernel) rfl
theorem zv_sd_append : Cond.selects "TorsionDesk$SquareDivisors" y_sd_append y_sd_append ∈ zB := zB2 (by decide +kernel) rfl
theorem zv_md_add : Cond.selects "TorsionDeskModel" y_md_add y_md_add ∈ zB := zB2 (by decide +kernel) rfl
theorem zv_md_counted : Cond.selects "TorsionDeskModel" y_md_counted y_md_counted ∈ zB := zB2 (by decide +kernel) rfl
theorem zv_md_cubic : Cond.selects "TorsionDeskModel" y_md_cubic y_md_cubic ∈ zB := zB2 (by decide +kernel) rfl
theorem zv_md_isPoint : Cond.selects "TorsionDeskModel" y_md_isPoint y_md_isPoint ∈ zB := zB2 (by decide +kernel) rfl
theorem zv_md_makes : Cond.selects "TorsionDeskModel" y_md_makes y_md_makes ∈ zB := zB2 (by decide +kernel) rfl
theorem zv_md_multiple : Cond.selects "TorsionDeskModel" y_md_multiple y_md_multiple ∈ zB := zB2 (by decide +kernel) rfl
theorem zv_md_number : Cond.selects "TorsionDeskModel" y_md_number y_md_number ∈ zB := zB2 (by decide +kernel) rfl
theorem zv_md_structure_x : Cond.selects "TorsionDeskModel" y_md_structure_x y_md_structure_x ∈ zB := zB2 (by decide +kernel) rfl
theorem zv_md_sumOf : Cond.selects "TorsionDeskModel" y_md_sumOf y_md_sumOf ∈ zB := zB2 (by decide +kernel) rfl
theorem zv_md_take : Cond.selects "TorsionDeskModel" y_md_take y_md_take ∈ zB := zB2 (by decide +kernel) rfl
theorem lX0 : ∀ w ∈ u_ws "TorsionDesk$Cubic" tX0 5, w ∈ zB := by
  show ∀ w ∈ [u_lay "TorsionDesk$Cubic" tX0 0, u_lay "TorsionDesk$Cubic" tX0 1, u_lay "TorsionDesk$Cubic" tX0 2, u_lay "TorsionDesk$Cubic" tX0 3, u_lay "TorsionDesk$Cubic" tX0 4], w ∈ zB
  exact List.forall_mem_cons.mpr ⟨zw_35, List.forall_mem_cons.mpr ⟨zw_37, List.forall_mem_cons.mpr ⟨zw_39, List.forall_mem_cons.mpr ⟨zw_41, List.forall_mem_cons.mpr ⟨zw_43, fun _ h => nomatch h⟩⟩⟩⟩⟩
theorem lX1 : ∀ w ∈ u_ws "TorsionDesk$FinitePoints" tX1 4, w ∈ zB := by
  show ∀ w ∈ [u_lay "TorsionDesk$FinitePoints" tX1 0, u_lay "TorsionDesk$FinitePoints" tX1 1, u_lay "TorsionDesk$FinitePoints" tX1 2, u_lay "TorsionDesk$FinitePoints" tX1 3], w ∈ zB
  exact List.forall_mem_cons.mpr ⟨zw_80, List.forall_mem_cons.mpr ⟨zw_82, List.forall_mem_cons.mpr ⟨zw_84, List.forall_mem_cons.mpr ⟨zw_86, fun _ h => nomatch h⟩⟩⟩⟩
theorem lX2 : ∀ w ∈ u_ws "TorsionDesk$SquareDivisors" tX2 3, w ∈ zB := by
  show ∀ w ∈ [u_lay "TorsionDesk$SquareDivisors" tX2 0, u_lay "TorsionDesk$SquareDivisors" tX2 1, u_lay "TorsionDesk$SquareDivisors" tX2 2], w ∈ zB
  exact List.forall_mem_cons.mpr ⟨zw_59, List.forall_mem_cons.mpr ⟨zw_61, List.forall_mem_cons.mpr ⟨zw_63, fun _ h => nomatch h⟩⟩⟩
theorem lX3 : ∀ w ∈ u_ws "TorsionDesk" tX3 6, w ∈ zB := by
  show ∀ w ∈ [u_lay "TorsionDesk" tX3 0, u_lay "TorsionDesk" tX3 1, u_lay "TorsionDesk" tX3 2, u_lay "TorsionDesk" tX3 3, u_lay "TorsionDesk" tX3 4, u_lay "TorsionDesk" tX3 5], w ∈ zB
  exact List.forall_mem_cons.mpr ⟨zw_95, List.forall_mem_cons.mpr ⟨zw_97, List.forall_mem_cons.mpr ⟨zw_99, List.forall_mem_cons.mpr ⟨zw_101, List.forall_mem_cons.mpr ⟨zw_103, List.forall_mem_cons.mpr ⟨zw_105, fun _ h => nomatch h⟩⟩⟩⟩⟩⟩
theorem lX4 : ∀ w ∈ u_ws "TorsionDeskModel" tX4 20, w ∈ zB := by
  show ∀ w ∈ [u_lay "TorsionDeskModel" tX4 0, u_lay "TorsionDeskModel" tX4 1, u_lay "TorsionDeskModel" tX4 2, u_lay "TorsionDeskModel" tX4 3, u_lay "TorsionDeskModel" tX4 4, u_lay "TorsionDeskModel" tX4 5, u_lay "TorsionDeskModel" tX4 6, u_lay "TorsionDeskModel" tX4 7, u_lay "TorsionDeskModel" tX4 8, u_lay "TorsionDeskModel" tX4 9, u_lay "TorsionDeskModel" tX4 10, u_lay "TorsionDeskModel" tX4 11, u_lay "TorsionDeskModel" tX4 12, u_lay "TorsionDeskModel" tX4 13, u_lay "TorsionDeskModel" tX4 14, u_lay "TorsionDeskModel" tX4 15, u_lay "TorsionDeskModel" tX4 16, u_lay "TorsionDeskModel" tX4 17, u_lay "TorsionDeskModel" tX4 18, u_lay "TorsionDeskModel" tX4 19], w ∈ zB
  exact List.forall_mem_cons.mpr ⟨zw_437, List.forall_mem_cons.mpr ⟨zw_439, List.forall_mem_cons.mpr ⟨zw_441, List.forall_mem_cons.mpr ⟨zw_443, List.forall_mem_cons.mpr ⟨zw_445, List.forall_mem_cons.mpr ⟨zw_447, List.forall_mem_cons.mpr ⟨zw_449, List.forall_mem_cons.mpr ⟨zw_451, List.forall_mem_cons.mpr ⟨zw_453, List.forall_mem_cons.mpr ⟨zw_455, List.forall_mem_cons.mpr ⟨zw_457, List.forall_mem_cons.mpr ⟨zw_459, List.forall_mem_cons.mpr ⟨zw_461, List.forall_mem_cons.mpr ⟨zw_463, List.forall_mem_cons.mpr ⟨zw_465, List.forall_mem_cons.mpr ⟨zw_467, List.forall_mem_cons.mpr ⟨zw_469, List.forall_mem_cons.mpr ⟨zw_471, List.forall_mem_cons.mpr ⟨zw_473, List.forall_mem_cons.mpr ⟨zw_475, fun _ h => nomatch h⟩⟩⟩⟩⟩⟩⟩⟩⟩⟩⟩⟩⟩⟩⟩⟩⟩⟩⟩⟩
