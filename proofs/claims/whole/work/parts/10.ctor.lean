/-! constructors: cells come -/
theorem zcA {D : va_G} {cl : List vw_C} {tys : List (ClassId × FieldType)} {s : State} {cA cI : ClassId} (h : va_K D cl tys s) (i j : Nat) (hi : tys[i]? = some (cI, .int)) (hj : tys[j]? = some (cA, .int)) : cA = cI := by
  have h1 : s.vm.findClass ("[" ++ (FieldType.int).toString) = some cI := (h.2 i _ hi).2
  have h2 : s.vm.findClass ("[" ++ (FieldType.int).toString) = some cA := (h.2 j _ hj).2
  exact Option.some.inj (h2.symm.trans h1)
theorem zcJ {D : va_G} {cl : List vw_C} {tys : List (ClassId × FieldType)} {s : State} {cA cI : ClassId} (h : va_K D cl tys s) (i j : Nat) (hi : tys[i]? = some (cI, .long)) (hj : tys[j]? = some (cA, .long)) : cA = cI := by
  have h1 : s.vm.findClass ("[" ++ (FieldType.long).toString) = some cI := (h.2 i _ hi).2
  have h2 : s.vm.findClass ("[" ++ (FieldType.long).toString) = some cA := (h.2 j _ hj).2
  exact Option.some.inj (h2.symm.trans h1)
theorem zgI {y : MethodName} {c : ByteArray} {maxL : Nat} {ret : Option FieldType} (h5 : Cond.code y c maxL ret ∈ zB) : GoodIn zB (Cond.code y c maxL ret :: zB) := by
  refine zGo fun w hw => ?_
  rcases List.mem_cons.mp hw with rfl | hw
  · exact h5
  · exact hw
def zPn (av : List Value) (D : va_G) (Z : va_W) (tys : List (ClassId × FieldType)) (sz : Nat) (X : State → Prop) : Array Value → State → Prop := fun v U => zPc av D Z tys v U ∧ U.heap.size = sz ∧ X U
theorem zPn_blind {av : List Value} {D : va_G} {Z : va_W} {tys : List (ClassId × FieldType)} {sz : Nat} {X : State → Prop} (hX : ∀ (U : State) (g : JFrame) (mk : MethodId) (a : Array Value), X U → X (U.calling g mk a)) : FrameBlind (zPn av D Z tys sz X) := fun a U g mk q => ⟨zPc_blind a U g mk q.1, q.2.1, hX U g mk a q.2.2⟩
theorem zmN {l : Launch} {y : MethodName} {rm : Room} {cc : ByteArray} {maxL : Nat} {ret : Option FieldType} {av : List Value} {D : va_G} {Z : va_W} {tys : List (ClassId × FieldType)} {Qc : Array Value → State → Outcome → State → Prop} {mc ms sz : Nat} {free : Addr → Prop} {X : State → Prop}
    (hy : plainName y.cls = true) (hlen : (lg_sl av).length ≤ maxL)
    (body : ∀ (p : Program) (e : Env) (s : State) (m : MethodId) (args : Array Value) (below : List Frame) (meth : Method) (c : Code) (R : Room) (Q : State → Prop), R = rm → Q = MQ below Qc args s mc ms free → p.tables.exec = Jvm.exec → c.code = cc → c.maxLocals = maxL → meth.sig.returnType = ret → meth.locks = false → meth.name = y.name → (∀ w ∈ zB, w.before args s = true) → s.vm.findClass y.cls = some m.cls → va_P D vwCl Z s.heap → va_K D vwCl tys s → s.heap.size = sz → X s → ∀ A : Nat → Prop, A = va_A Z sz → va_D A Z → (∀ q, s.heap.size ≤ q → A q) → ∀ ls : Array Slot, lv_has ls maxL (lv_args 0 av) → W p l e R s m args below meth c s.heap [] 0 0 Q (F0 m 0 ls [])) : Met l y (Cond.code y cc maxL ret :: zB) rm (zPn av D Z tys sz X) Qc mc ms free := by
  refine Met.ofW (cc := cc) (maxL := maxL) (ret := ret) hy rfl ?_
  intro p e s m args below meth c s₁ B hml hv
  obtain ⟨⟨hav, hP, hK, hD⟩, hsz, hX⟩ := hv
  have hl := lv_entry av (n := maxL) hlen
  have hts := atoms_spec (ws := Cond.code y cc maxL ret :: zB) B.pre
  have hx := body p e s m args below meth c _ _ rfl rfl B.exec B.bytes hml B.returns B.notSynchronized (name_of_methodNamed B.named B.method).1 (fun w h => hts w (List.mem_cons_of_mem _ h)) (findClass_of_methodNamed B.named) hP hK hsz hX _ rfl hD.self (fun q h => Or.inr (by rw [← hsz]; exact h)) _ hl
  subst hav
  rw [lg_entry_eq]
  exact hx
abbrev rm_cu_init : Room := { frames := 1, cells := 1, slots := 97, locals := 12 }
set_option maxHeartbeats 4000000 in
set_option maxRecDepth 100000 in
theorem kc_cu_init (l : Launch) (D : va_G) (cI cJ : ClassId) (h0 sz : Nat) : Met l y_cu_init zs_cu_init rm_cu_init (zPn [.ref h0] D [(h0, .inr (0, [.long 0, .long 0, .long 0, .long 0, .null]))] [(cI, .int), (cJ, .long)] sz (fun _ => True)) (va_Qv (fun _ : Nat => True) (fun u t => match u with | q7 => va_P D vwCl [(h0, .inr (0, [.long 0, .long 0, .long 0, .long 0, .ref q7])), (q7, .inl (cI, 97, .inl (fun _ => 0)))] t.heap ∧ va_D (va_A [(h0, .inr (0, [.long 0, .long 0, .long 0, .long 0, .null]))] sz) [(h0, .inr (0, [.long 0, .long 0, .long 0, .long 0, .ref q7])), (q7, .inl (cI, 97, .inl (fun _ => 0)))]) (va_A [(h0, .inr (0, [.long 0, .long 0, .long 0, .long 0, .null]))] sz)) 1 97 (va_A [(h0, .inr (0, [.long 0, .long 0, .long 0, .long 0, .null]))] sz) := by
  refine zmN (by decide) (Nat.le_of_ble_eq_true rfl) ?_
  intro p e s m args below meth c R Q hR hQ hx hb hml hr hlocks hin hB hown hP hK hsz hX A hAe hD hA ls hl
  have hown : s.vm.findClass "TorsionDesk$Cubic" = some m.cls := hown
  have hl : lv_has ls 1 [(0, .ref h0)] := hl
  have hS : va_S A s.heap s.heap [] := va_S.rf
  refine lv_aload_n (pc := 0) hx hb d_cu_init_0 rfl (lv_at hl 0 rfl) ?_
  refine W.objInit (g := F0 m 1 ls [.ref h0]) hx hb hown (hB _ zw_27) (hB _ zw_20) (hB _ zw_21) rfl (by rw [hml]; exact hl.1) rfl d_cu_init_1 (by rw [hR]; exact Nat.le_of_ble_eq_true rfl) (by rw [hR]; exact Nat.le_of_ble_eq_true rfl) ?_
  refine W.eq (g2 := F0 m 4 ls []) rfl ?_
  refine lv_aload_n (pc := 4) hx hb d_cu_init_4 rfl (lv_at hl 0 rfl) ?_
  refine lv_bipush (pc := 5) (v := (97 : Int32)) hx hb d_cu_init_5 (by decide) ?_
  refine va_newa (pc := 7) (atype := .int) (ty := .int) (a0 := (97, .inl (fun _ => 0))) hx hb (hB _ zw_46) rfl hK hP hD hS hA (fun _ => rfl) (by decide) (N' := 97) (by decide) (by decide +kernel) (by rw [hR]; exact Nat.le_of_ble_eq_true rfl) (by rw [hR]; exact Nat.le_of_ble_eq_true rfl) d_cu_init_7 (fun q7 cA H hKn hP hD hS => ?_)
  obtain rfl : cI = cA := (zcA hKn 0 2 rfl rfl).symm
  have hP : va_P D vwCl [(h0, .inr (0, [.long 0, .long 0, .long 0, .long 0, .null])), (q7, .inl (cI, 97, .inl (fun _ => 0)))] H := hP
  have hD : va_D A [(h0, .inr (0, [.long 0, .long 0, .long 0, .long 0, .null])), (q7, .inl (cI, 97, .inl (fun _ => 0)))] := hD
  refine W.cs (cells' := 1) (slots' := 97) rfl rfl ?_
  refine va_putF (pc := 9) (D := D) (ci := 0) (v := .ref q7) (ty := .array .int) (C := "TorsionDesk$Cubic") (T := tX0) (N := 5) hx hb hB lX0 yX0 yX0_ok nX0 hown hK hP hD hS 0 rfl rfl 4 (by decide) (hB _ zw_34) (fun _ h9 => h9) rfl hin rfl (by decide +kernel) rfl rfl (Nat.le_of_ble_eq_true rfl) d_cu_init_9 (fun H locs hP hD hS => ?_)
  have hP : va_P D vwCl [(h0, .inr (0, [.long 0, .long 0, .long 0, .long 0, .ref q7])), (q7, .inl (cI, 97, .inl (fun _ => 0)))] H := hP
  have hD : va_D A [(h0, .inr (0, [.long 0, .long 0, .long 0, .long 0, .ref q7])), (q7, .inl (cI, 97, .inl (fun _ => 0)))] := hD
  rw [hQ]
  exact W.vret (pc := 12) hx hb hr (fun t ht _ => ⟨⟨q7, rfl, trivial, by rw [ht]; exact hP, by rw [hAe] at hD; exact hD⟩, by rw [← hAe]; exact hS.F ht⟩) (by rw [← hAe]; exact hS.2.2) d_cu_init_12
abbrev rm_sd_init : Room := { frames := 1, cells := 1, slots := 64, locals := 12 }
set_option maxHeartbeats 4000000 in
set_option maxRecDepth 100000 in
theorem kc_sd_init (l : Launch) (D : va_G) (cI cJ : ClassId) (h0 sz : Nat) : Met l y_sd_init zs_sd_init rm_sd_init (zPn [.ref h0] D [(h0, .inr (2, [.null, .int 0, .long 0]))] [(cI, .int), (cJ, .long)] sz (fun _ => True)) (va_Qv (fun _ : Nat => True) (fun u t => match u with | q7 => va_P D vwCl [(h0, .inr (2, [.ref q7, .int 0, .long 0])), (q7, .inl (cI, 64, .inl (fun _ => 0)))] t.heap ∧ va_D (va_A [(h0, .inr (2, [.null, .int 0, .long 0]))] sz) [(h0, .inr (2, [.ref q7, .int 0, .long 0])), (q7, .inl (cI, 64, .inl (fun _ => 0)))]) (va_A [(h0, .inr (2, [.null, .int 0, .long 0]))] sz)) 1 64 (va_A [(h0, .inr (2, [.null, .int 0, .long 0]))] sz) := by
  refine zmN (by decide) (Nat.le_of_ble_eq_true rfl) ?_
  intro p e s m args below meth c R Q hR hQ hx hb hml hr hlocks hin hB hown hP hK hsz hX A hAe hD hA ls hl
  have hown : s.vm.findClass "TorsionDesk$SquareDivisors" = some m.cls := hown
  have hl : lv_has ls 1 [(0, .ref h0)] := hl
  have hS : va_S A s.heap s.heap [] := va_S.rf
  refine lv_aload_n (pc := 0) hx hb d_sd_init_0 rfl (lv_at hl 0 rfl) ?_
  refine W.objInit (g := F0 m 1 ls [.ref h0]) hx hb hown (hB _ zw_52) (hB _ zw_20) (hB _ zw_21) rfl (by rw [hml]; exact hl.1) rfl d_sd_init_1 (by rw [hR]; exact Nat.le_of_ble_eq_true rfl) (by rw [hR]; exact Nat.le_of_ble_eq_true rfl) ?_
  refine W.eq (g2 := F0 m 4 ls []) rfl ?_
  refine lv_aload_n (pc := 4) hx hb d_sd_init_4 rfl (lv_at hl 0 rfl) ?_
  refine lv_bipush (pc := 5) (v := (64 : Int32)) hx hb d_sd_init_5 (by decide) ?_
  refine va_newa (pc := 7) (atype := .int) (ty := .int) (a0 := (64, .inl (fun _ => 0))) hx hb (hB _ zw_46) rfl hK hP hD hS hA (fun _ => rfl) (by decide) (N' := 64) (by decide) (by decide +kernel) (by rw [hR]; exact Nat.le_of_ble_eq_true rfl) (by rw [hR]; exact Nat.le_of_ble_eq_true rfl) d_sd_init_7 (fun q7 cA H hKn hP hD hS => ?_)
  obtain rfl : cI = cA := (zcA hKn 0 2 rfl rfl).symm
  have hP : va_P D vwCl [(h0, .inr (2, [.null, .int 0, .long 0])), (q7, .inl (cI, 64, .inl (fun _ => 0)))] H := hP
  have hD : va_D A [(h0, .inr (2, [.null, .int 0, .long 0])), (q7, .inl (cI, 64, .inl (fun _ => 0)))] := hD
  refine W.cs (cells' := 1) (slots' := 64) rfl rfl ?_
  refine va_putF (pc := 9) (D := D) (ci := 2) (v := .ref q7) (ty := .array .int) (C := "TorsionDesk$SquareDivisors") (T := tX2) (N := 3) hx hb hB lX2 yX2 yX2_ok nX2 hown hK hP hD hS 0 rfl rfl 0 (by decide) (hB _ zw_53) (fun _ h9 => h9) rfl hin rfl (by decide +kernel) rfl rfl (Nat.le_of_ble_eq_true rfl) d_sd_init_9 (fun H locs hP hD hS => ?_)
  have hP : va_P D vwCl [(h0, .inr (2, [.ref q7, .int 0, .long 0])), (q7, .inl (cI, 64, .inl (fun _ => 0)))] H := hP
  have hD : va_D A [(h0, .inr (2, [.ref q7, .int 0, .long 0])), (q7, .inl (cI, 64, .inl (fun _ => 0)))] := hD
  rw [hQ]
  exact W.vret (pc := 12) hx hb hr (fun t ht _ => ⟨⟨q7, rfl, trivial, by rw [ht]; exact hP, by rw [hAe] at hD; exact hD⟩, by rw [← hAe]; exact hS.F ht⟩) (by rw [← hAe]; exact hS.2.2) d_sd_init_12
abbrev rm_fp_init : Room := { frames := 1, cells := 3, slots := 96, locals := 12 }
set_option maxHeartbeats 4000000 in
set_option maxRecDepth 100000 in
theorem kc_fp_init (l : Launch) (D : va_G) (cI cJ : ClassId) (h0 sz : Nat) : Met l y_fp_init zs_fp_init rm_fp_init (zPn [.ref h0] D [(h0, .inr (1, [.null, .null, .null, .int 0]))] [(cI, .int), (cJ, .long)] sz (fun _ => True)) (va_Qv (fun _ : Nat × Nat × Nat => True) (fun u t => match u with | (q7, q15, q23) => va_P D vwCl [(h0, .inr (1, [.ref q7, .ref q15, .ref q23, .int 0])), (q7, .inl (cI, 32, .inl (fun _ => 0))), (q15, .inl (cI, 32, .inl (fun _ => 0))), (q23, .inl (cI, 32, .inl (fun _ => 0)))] t.heap ∧ va_D (va_A [(h0, .inr (1, [.null, .null, .null, .int 0]))] sz) [(h0, .inr (1, [.ref q7, .ref q15, .ref q23, .int 0])), (q7, .inl (cI, 32, .inl (fun _ => 0))), (q15, .inl (cI, 32, .inl (fun _ => 0))), (q23, .inl (cI, 32, .inl (fun _ => 0)))]) (va_A [(h0, .inr (1, [.null, .null, .null, .int 0]))] sz)) 3 96 (va_A [(h0, .inr (1, [.null, .null, .null, .int 0]))] sz) := by
  refine zmN (by decide) (Nat.le_of_ble_eq_true rfl) ?_
  intro p e s m args below meth c R Q hR hQ hx hb hml hr hlocks hin hB hown hP hK hsz hX A hAe hD hA ls hl
  have hown : s.vm.findClass "TorsionDesk$FinitePoints" = some m.cls := hown
  have hl : lv_has ls 1 [(0, .ref h0)] := hl
  have hS : va_S A s.heap s.heap [] := va_S.rf
  refine lv_aload_n (pc := 0) hx hb d_fp_init_0 rfl (lv_at hl 0 rfl) ?_
  refine W.objInit (g := F0 m 1 ls [.ref h0]) hx hb hown (hB _ zw_71) (hB _ zw_20) (hB _ zw_21) rfl (by rw [hml]; exact hl.1) rfl d_fp_init_1 (by rw [hR]; exact Nat.le_of_ble_eq_true rfl) (by rw [hR]; exact Nat.le_of_ble_eq_true rfl) ?_
  refine W.eq (g2 := F0 m 4 ls []) rfl ?_
  refine lv_aload_n (pc := 4) hx hb d_fp_init_4 rfl (lv_at hl 0 rfl) ?_
  refine lv_bipush (pc := 5) (v := (32 : Int32)) hx hb d_fp_init_5 (by decide) ?_
  refine va_newa (pc := 7) (atype := .int) (ty := .int) (a0 := (32, .inl (fun _ => 0))) hx hb (hB _ zw_46) rfl hK hP hD hS hA (fun _ => rfl) (by decide) (N' := 32) (by decide) (by decide +kernel) (by rw [hR]; exact Nat.le_of_ble_eq_true rfl) (by rw [hR]; exact Nat.le_of_ble_eq_true rfl) d_fp_init_7 (fun q7 cA H hKn hP hD hS => ?_)
  obtain rfl : cI = cA := (zcA hKn 0 2 rfl rfl).symm
  have hP : va_P D vwCl [(h0, .inr (1, [.null, .null, .null, .int 0])), (q7, .inl (cI, 32, .inl (fun _ => 0)))] H := hP
  have hD : va_D A [(h0, .inr (1, [.null, .null, .null, .int 0])), (q7, .inl (cI, 32, .inl (fun _ => 0)))] := hD
  refine W.cs (cells' := 1) (slots' := 32) rfl rfl ?_
  refine va_putF (pc := 9) (D := D) (ci := 1) (v := .ref q7) (ty := .array .int) (C := "TorsionDesk$FinitePoints") (T := tX1) (N := 4) hx hb hB lX1 yX1 yX1_ok nX1 hown hK hP hD hS 0 rfl rfl 0 (by decide) (hB _ zw_72) (fun _ h9 => h9) rfl hin rfl (by decide +kernel) rfl rfl (Nat.le_of_ble_eq_true rfl) d_fp_init_9 (fun H locs hP hD hS => ?_)
  have hP : va_P D vwCl [(h0, .inr (1, [.ref q7, .null, .null, .int 0])), (q7, .inl (cI, 32, .inl (fun _ => 0)))] H := hP
  have hD : va_D A [(h0, .inr (1, [.ref q7, .null, .null, .int 0])), (q7, .inl (cI, 32, .inl (fun _ => 0)))] := hD
  refine lv_aload_n (pc := 12) hx hb d_fp_init_12 rfl (lv_at hl 0 rfl) ?_
  refine lv_bipush (pc := 13) (v := (32 : Int32)) hx hb d_fp_init_13 (by decide) ?_
  refine va_newa (pc := 15) (atype := .int) (ty := .int) (a0 := (32, .inl (fun _ => 0))) hx hb (hB _ zw_46) rfl hK hP hD hS hA (fun _ => rfl) (by decide) (N' := 32) (by decide) (by decide +kernel) (by rw [hR]; exact Nat.le_of_ble_eq_true rfl) (by rw [hR]; exact Nat.le_of_ble_eq_true rfl) d_fp_init_15 (fun q15 cA H hKn hP hD hS => ?_)
  obtain rfl : cI = cA := (zcA hKn 0 2 rfl rfl).symm
  have hP : va_P D vwCl [(h0, .inr (1, [.ref q7, .null, .null, .int 0])), (q7, .inl (cI, 32, .inl (fun _ => 0))), (q15, .inl (cI, 32, .inl (fun _ => 0)))] H := hP
  have hD : va_D A [(h0, .inr (1, [.ref q7, .null, .null, .int 0])), (q7, .inl (cI, 32, .inl (fun _ => 0))), (q15, .inl (cI, 32, .inl (fun _ => 0)))] := hD
  refine W.cs (cells' := 2) (slots' := 64) rfl rfl ?_
  refine va_putF (pc := 17) (D := D) (ci := 1) (v := .ref q15) (ty := .array .int) (C := "TorsionDesk$FinitePoints") (T := tX1) (N := 4) hx hb hB lX1 yX1 yX1_ok nX1 hown hK hP hD hS 0 rfl rfl 1 (by decide) (hB _ zw_74) (fun _ h9 => h9) rfl hin rfl (by decide +kernel) rfl rfl (Nat.le_of_ble_eq_true rfl) d_fp_init_17 (fun H locs hP hD hS => ?_)
  have hP : va_P D vwCl [(h0, .inr (1, [.ref q7, .ref q15, .null, .int 0])), (q7, .inl (cI, 32, .inl (fun _ => 0))), (q15, .inl (cI, 32, .inl (fun _ => 0)))] H := hP
  have hD : va_D A [(h0, .inr (1, [.ref q7, .ref q15, .null, .int 0])), (q7, .inl (cI, 32, .inl (fun _ => 0))), (q15, .inl (cI, 32, .inl (fun _ => 0)))] := hD
  refine lv_aload_n (pc := 20) hx hb d_fp_init_20 rfl (lv_at hl 0 rfl) ?_
  refine lv_bipush (pc := 21) (v := (32 : Int32)) hx hb d_fp_init_21 (by decide) ?_
  refine va_newa (pc := 23) (atype := .int) (ty := .int) (a0 := (32, .inl (fun _ => 0))) hx hb (hB _ zw_46) rfl hK hP hD hS hA (fun _ => rfl) (by decide) (N' := 32) (by decide) (by decide +kernel) (by rw [hR]; exact Nat.le_of_ble_eq_true rfl) (by rw [hR]; exact Nat.le_of_ble_eq_true rfl) d_fp_init_23 (fun q23 cA H hKn hP hD hS => ?_)
  obtain rfl : cI = cA := (zcA hKn 0 2 rfl rfl).symm
  have hP : va_P D vwCl [(h0, .inr (1, [.ref q7, .ref q15, .null, .int 0])), (q7, .inl (cI, 32, .inl (fun _ => 0))), (q15, .inl (cI, 32, .inl (fun _ => 0))), (q23, .inl (cI, 32, .inl (fun _ => 0)))] H := hP
  have hD : va_D A [(h0, .inr (1, [.ref q7, .ref q15, .null, .int 0])), (q7, .inl (cI, 32, .inl (fun _ => 0))), (q15, .inl (cI, 32, .inl (fun _ => 0))), (q23, .inl (cI, 32, .inl (fun _ => 0)))] := hD
  refine W.cs (cells' := 3) (slots' := 96) rfl rfl ?_
  refine va_putF (pc := 25) (D := D) (ci := 1) (v := .ref q23) (ty := .array .int) (C := "TorsionDesk$FinitePoints") (T := tX1) (N := 4) hx hb hB lX1 yX1 yX1_ok nX1 hown hK hP hD hS 0 rfl rfl 2 (by decide) (hB _ zw_76) (fun _ h9 => h9) rfl hin rfl (by decide +kernel) rfl rfl (Nat.le_of_ble_eq_true rfl) d_fp_init_25 (fun H locs hP hD hS => ?_)
  have hP : va_P D vwCl [(h0, .inr (1, [.ref q7, .ref q15, .ref q23, .int 0])), (q7, .inl (cI, 32, .inl (fun _ => 0))), (q15, .inl (cI, 32, .inl (fun _ => 0))), (q23, .inl (cI, 32, .inl (fun _ => 0)))] H := hP
  have hD : va_D A [(h0, .inr (1, [.ref q7, .ref q15, .ref q23, .int 0])), (q7, .inl (cI, 32, .inl (fun _ => 0))), (q15, .inl (cI, 32, .inl (fun _ => 0))), (q23, .inl (cI, 32, .inl (fun _ => 0)))] := hD
  rw [hQ]
  exact W.vret (pc := 28) hx hb hr (fun t ht _ => ⟨⟨(q7, q15, q23), rfl, trivial, by rw [ht]; exact hP, by rw [hAe] at hD; exact hD⟩, by rw [← hAe]; exact hS.F ht⟩) (by rw [← hAe]; exact hS.2.2) d_fp_init_28
abbrev rm_td_init : Room := { frames := 2, cells := 8, slots := 269, locals := 32 }
set_option maxHeartbeats 4000000 in
set_option maxRecDepth 100000 in
theorem kc_td_init (l : Launch) (D : va_G) (cI cJ : ClassId) (h0 sz : Nat) : Met l y_td_init zs_td_init rm_td_init (zPn [.ref h0] D [(h0, .inr (3, [.null, .null, .null, .int 0, .int 0, .int 0]))] [(cI, .int), (cJ, .long)] sz (fun U => va_Nw (.methodLinkNest "TorsionDesk" 9 y_cu_init "TorsionDesk") U ∧ va_Nw (.methodLinkNest "TorsionDesk" 18 y_sd_init "TorsionDesk") U ∧ va_Nw (.methodLinkNest "TorsionDesk" 25 y_fp_init "TorsionDesk") U)) (va_Qv (fun _ : Nat × Nat × Nat × Nat × Nat × Nat × Nat × Nat => True) (fun u t => match u with | (q5, q7_q5, q16, q7_q16, q27, q7_q27, q15_q27, q23_q27) => va_P D vwCl [(h0, .inr (3, [.ref q5, .ref q16, .ref q27, .int 0, .int 0, .int 0])), (q5, .inr (0, [.long 0, .long 0, .long 0, .long 0, .ref q7_q5])), (q7_q5, .inl (cI, 97, .inl (fun _ => 0))), (q16, .inr (2, [.ref q7_q16, .int 0, .long 0])), (q7_q16, .inl (cI, 64, .inl (fun _ => 0))), (q27, .inr (1, [.ref q7_q27, .ref q15_q27, .ref q23_q27, .int 0])), (q7_q27, .inl (cI, 32, .inl (fun _ => 0))), (q15_q27, .inl (cI, 32, .inl (fun _ => 0))), (q23_q27, .inl (cI, 32, .inl (fun _ => 0)))] t.heap ∧ va_D (va_A [(h0, .inr (3, [.null, .null, .null, .int 0, .int 0, .int 0]))] sz) [(h0, .inr (3, [.ref q5, .ref q16, .ref q27, .int 0, .int 0, .int 0])), (q5, .inr (0, [.long 0, .long 0, .long 0, .long 0, .ref q7_q5])), (q7_q5, .inl (cI, 97, .inl (fun _ => 0))), (q16, .inr (2, [.ref q7_q16, .int 0, .long 0])), (q7_q16, .inl (cI, 64, .inl (fun _ => 0))), (q27, .inr (1, [.ref q7_q27, .ref q15_q27, .ref q23_q27, .int 0])), (q7_q27, .inl (cI, 32, .inl (fun _ => 0))), (q15_q27, .inl (cI, 32, .inl (fun _ => 0))), (q23_q27, .inl (cI, 32, .inl (fun _ => 0)))]) (va_A [(h0, .inr (3, [.null, .null, .null, .int 0, .int 0, .int 0]))] sz)) 8 269 (va_A [(h0, .inr (3, [.null, .null, .null, .int 0, .int 0, .int 0]))] sz) := by
  refine zmN (by decide) (Nat.le_of_ble_eq_true rfl) ?_
  intro p e s m args below meth c R Q hR hQ hx hb hml hr hlocks hin hB hown hP hK hsz hX A hAe hD hA ls hl
  have hown : s.vm.findClass "TorsionDesk" = some m.cls := hown
  have hl : lv_has ls 1 [(0, .ref h0)] := hl
  have hS : va_S A s.heap s.heap [] := va_S.rf
  refine lv_aload_n (pc := 0) hx hb d_td_init_0 rfl (lv_at hl 0 rfl) ?_
  refine W.objInit (g := F0 m 1 ls [.ref h0]) hx hb hown (hB _ zw_19) (hB _ zw_20) (hB _ zw_21) rfl (by rw [hml]; exact hl.1) rfl d_td_init_1 (by rw [hR]; exact Nat.le_of_ble_eq_true rfl) (by rw [hR]; exact Nat.le_of_ble_eq_true rfl) ?_
  refine W.eq (g2 := F0 m 4 ls []) rfl ?_
  refine lv_aload_n (pc := 4) hx hb d_td_init_4 rfl (lv_at hl 0 rfl) ?_
  refine va_new (pc := 5) (D := D) (ci := 0) (fs := [.long 0, .long 0, .long 0, .long 0, .null]) (C := "TorsionDesk$Cubic") (T := tX0) (N := 5) hx hb hB lX0 yX0 yX0_ok hown (hB _ zw_22) (hB _ zw_23) (hB _ zw_2) hK hP hD hS hA rfl (fun j hj => by rcases (show j = 0 ∨ j = 1 ∨ j = 2 ∨ j = 3 ∨ j = 4 by omega) with rfl | rfl | rfl | rfl | rfl <;> rfl) (by rw [hR]; exact Nat.le_of_ble_eq_true rfl) (by rw [hR]; exact Nat.le_of_ble_eq_true rfl) d_td_init_5 (fun q5 H hP hD hS => ?_)
  have hP : va_P D vwCl [(h0, .inr (3, [.null, .null, .null, .int 0, .int 0, .int 0])), (q5, .inr (0, [.long 0, .long 0, .long 0, .long 0, .null]))] H := hP
  have hD : va_D A [(h0, .inr (3, [.null, .null, .null, .int 0, .int 0, .int 0])), (q5, .inr (0, [.long 0, .long 0, .long 0, .long 0, .null]))] := hD
  refine W.cs (cells' := 1) (slots' := 5) rfl rfl ?_
  refine lv_dup (pc := 8) hx hb d_td_init_8 rfl ?_
  have hPc := hP.sub (ws' := [(q5, .inr (0, [.long 0, .long 0, .long 0, .long 0, .null]))]) [1] rfl
  have hDc := hD.sub (ws' := [(q5, .inr (0, [.long 0, .long 0, .long 0, .long 0, .null]))]) [1] (by decide) rfl
  have hFc := va_free (wc := [(q5, .inr (0, [.long 0, .long 0, .long 0, .long 0, .null]))]) hD hS hA [1] rfl
  refine va_callv (pc := 9) (va_runIN (As := []) (rest := [.ref q5, .ref h0]) ⟨hx, hb, hml, hown, hB⟩ (kc_cu_init l D cI cJ q5 H.size) ⟨va_cnB 0 hB (zgI zw_26) rfl rfl rfl hX.1 (hB _ zw_2) (by decide +kernel) ⟨by rw [hR]; exact Nat.le_of_ble_eq_true rfl, by rw [hR]; exact Nat.le_of_ble_eq_true rfl⟩, rfl, (hB _ zw_25)⟩ ⟨zPn_blind (fun _ _ _ _ h => h), fun U hU hW => ⟨⟨rfl, by rw [hU]; exact hPc, va_K.moved hW.alike hK, hDc.weaken (fun _ _ _ _ => trivial)⟩, by rw [hU], trivial⟩⟩ rfl rfl hl.1 rfl (lv_room (Nat.le_of_ble_eq_true rfl)) d_td_init_9 ⟨by rw [hR]; exact Nat.le_of_ble_eq_true rfl, by rw [hR]; exact Nat.le_of_ble_eq_true rfl⟩) hS (fun q _ h => hFc q h) hFc (fun u t H1 locs ht hvm hw hB1 hz1 hk1 hS => ?_)
  obtain ⟨q7_q5, rfl⟩ : ∃ z, z = u := ⟨_, rfl⟩
  obtain ⟨hP1, hD1⟩ := hB1
  rw [ht] at hP1
  obtain ⟨hP, hD⟩ := va_join (wr := [(h0, .inr (3, [.null, .null, .null, .int 0, .int 0, .int 0]))]) (w1 := [(q5, .inr (0, [.long 0, .long 0, .long 0, .long 0, .ref q7_q5])), (q7_q5, .inl (cI, 97, .inl (fun _ => 0)))]) hP hD [1] [0] rfl rfl (by decide) (by decide) hk1 hFc hP1 hD1
  generalize H1 = H at hP hS ⊢
  have hP : va_P D vwCl [(h0, .inr (3, [.null, .null, .null, .int 0, .int 0, .int 0])), (q5, .inr (0, [.long 0, .long 0, .long 0, .long 0, .ref q7_q5])), (q7_q5, .inl (cI, 97, .inl (fun _ => 0)))] H := hP
  have hD : va_D A [(h0, .inr (3, [.null, .null, .null, .int 0, .int 0, .int 0])), (q5, .inr (0, [.long 0, .long 0, .long 0, .long 0, .ref q7_q5])), (q7_q5, .inl (cI, 97, .inl (fun _ => 0)))] := hD
  refine W.cs (cells' := 2) (slots' := 102) rfl rfl ?_
  refine va_putF (pc := 12) (D := D) (ci := 3) (v := .ref q5) (ty := .object "TorsionDesk$Cubic") (C := "TorsionDesk") (T := tX3) (N := 6) hx hb hB lX3 yX3 yX3_ok nX3 hown hK hP hD hS 0 rfl rfl 0 (by decide) (hB _ zw_89) (fun _ h9 => h9) rfl hin rfl (by decide +kernel) rfl rfl (Nat.le_of_ble_eq_true rfl) d_td_init_12 (fun H locs hP hD hS => ?_)
  have hP : va_P D vwCl [(h0, .inr (3, [.ref q5, .null, .null, .int 0, .int 0, .int 0])), (q5, .inr (0, [.long 0, .long 0, .long 0, .long 0, .ref q7_q5])), (q7_q5, .inl (cI, 97, .inl (fun _ => 0)))] H := hP
  have hD : va_D A [(h0, .inr (3, [.ref q5, .null, .null, .int 0, .int 0, .int 0])), (q5, .inr (0, [.long 0, .long 0, .long 0, .long 0, .ref q7_q5])), (q7_q5, .inl (cI, 97, .inl (fun _ => 0)))] := hD
  refine lv_aload_n (pc := 15) hx hb d_td_init_15 rfl (lv_at hl 0 rfl) ?_
  refine va_new (pc := 16) (D := D) (ci := 2) (fs := [.null, .int 0, .long 0]) (C := "TorsionDesk$SquareDivisors") (T := tX2) (N := 3) hx hb hB lX2 yX2 yX2_ok hown (hB _ zw_47) (hB _ zw_48) (hB _ zw_3) hK hP hD hS hA rfl (fun j hj => by rcases (show j = 0 ∨ j = 1 ∨ j = 2 by omega) with rfl | rfl | rfl <;> rfl) (by rw [hR]; exact Nat.le_of_ble_eq_true rfl) (by rw [hR]; exact Nat.le_of_ble_eq_true rfl) d_td_init_16 (fun q16 H hP hD hS => ?_)
  have hP : va_P D vwCl [(h0, .inr (3, [.ref q5, .null, .null, .int 0, .int 0, .int 0])), (q5, .inr (0, [.long 0, .long 0, .long 0, .long 0, .ref q7_q5])), (q7_q5, .inl (cI, 97, .inl (fun _ => 0))), (q16, .inr (2, [.null, .int 0, .long 0]))] H := hP
  have hD : va_D A [(h0, .inr (3, [.ref q5, .null, .null, .int 0, .int 0, .int 0])), (q5, .inr (0, [.long 0, .long 0, .long 0, .long 0, .ref q7_q5])), (q7_q5, .inl (cI, 97, .inl (fun _ => 0))), (q16, .inr (2, [.null, .int 0, .long 0]))] := hD
  refine W.cs (cells' := 3) (slots' := 105) rfl rfl ?_
  refine lv_dup (pc := 19) hx hb d_td_init_19 rfl ?_
  have hPc := hP.sub (ws' := [(q16, .inr (2, [.null, .int 0, .long 0]))]) [3] rfl
  have hDc := hD.sub (ws' := [(q16, .inr (2, [.null, .int 0, .long 0]))]) [3] (by decide) rfl
  have hFc := va_free (wc := [(q16, .inr (2, [.null, .int 0, .long 0]))]) hD hS hA [3] rfl
  refine va_callv (pc := 20) (va_runIN (As := []) (rest := [.ref q16, .ref h0]) ⟨hx, hb, hml, hown, hB⟩ (kc_sd_init l D cI cJ q16 H.size) ⟨va_cnB 0 hB (zgI zw_51) rfl rfl rfl hX.2.1 (hB _ zw_3) (by decide +kernel) ⟨by rw [hR]; exact Nat.le_of_ble_eq_true rfl, by rw [hR]; exact Nat.le_of_ble_eq_true rfl⟩, rfl, (hB _ zw_50)⟩ ⟨zPn_blind (fun _ _ _ _ h => h), fun U hU hW => ⟨⟨rfl, by rw [hU]; exact hPc, va_K.moved hW.alike hK, hDc.weaken (fun _ _ _ _ => trivial)⟩, by rw [hU], trivial⟩⟩ rfl rfl hl.1 rfl (lv_room (Nat.le_of_ble_eq_true rfl)) d_td_init_20 ⟨by rw [hR]; exact Nat.le_of_ble_eq_true rfl, by rw [hR]; exact Nat.le_of_ble_eq_true rfl⟩) hS (fun q _ h => hFc q h) hFc (fun u t H1 locs ht hvm hw hB1 hz1 hk1 hS => ?_)
  obtain ⟨q7_q16, rfl⟩ : ∃ z, z = u := ⟨_, rfl⟩
  obtain ⟨hP1, hD1⟩ := hB1
  rw [ht] at hP1
  obtain ⟨hP, hD⟩ := va_join (wr := [(h0, .inr (3, [.ref q5, .null, .null, .int 0, .int 0, .int 0])), (q5, .inr (0, [.long 0, .long 0, .long 0, .long 0, .ref q7_q5])), (q7_q5, .inl (cI, 97, .inl (fun _ => 0)))]) (w1 := [(q16, .inr (2, [.ref q7_q16, .int 0, .long 0])), (q7_q16, .inl (cI, 64, .inl (fun _ => 0)))]) hP hD [3] [0, 1, 2] rfl rfl (by decide) (by decide) hk1 hFc hP1 hD1
  generalize H1 = H at hP hS ⊢
  have hP : va_P D vwCl [(h0, .inr (3, [.ref q5, .null, .null, .int 0, .int 0, .int 0])), (q5, .inr (0, [.long 0, .long 0, .long 0, .long 0, .ref q7_q5])), (q7_q5, .inl (cI, 97, .inl (fun _ => 0))), (q16, .inr (2, [.ref q7_q16, .int 0, .long 0])), (q7_q16, .inl (cI, 64, .inl (fun _ => 0)))] H := hP
  have hD : va_D A [(h0, .inr (3, [.ref q5, .null, .null, .int 0, .int 0, .int 0])), (q5, .inr (0, [.long 0, .long 0, .long 0, .long 0, .ref q7_q5])), (q7_q5, .inl (cI, 97, .inl (fun _ => 0))), (q16, .inr (2, [.ref q7_q16, .int 0, .long 0])), (q7_q16, .inl (cI, 64, .inl (fun _ => 0)))] := hD
  refine W.cs (cells' := 4) (slots' := 169) rfl rfl ?_
  refine va_putF (pc := 23) (D := D) (ci := 3) (v := .ref q16) (ty := .object "TorsionDesk$SquareDivisors") (C := "TorsionDesk") (T := tX3) (N := 6) hx hb hB lX3 yX3 yX3_ok nX3 hown hK hP hD hS 0 rfl rfl 1 (by decide) (hB _ zw_90) (fun _ h9 => h9) rfl hin rfl (by decide +kernel) rfl rfl (Nat.le_of_ble_eq_true rfl) d_td_init_23 (fun H locs hP hD hS => ?_)
  have hP : va_P D vwCl [(h0, .inr (3, [.ref q5, .ref q16, .null, .int 0, .int 0, .int 0])), (q5, .inr (0, [.long 0, .long 0, .long 0, .long 0, .ref q7_q5])), (q7_q5, .inl (cI, 97, .inl (fun _ => 0))), (q16, .inr (2, [.ref q7_q16, .int 0, .long 0])), (q7_q16, .inl (cI, 64, .inl (fun _ => 0)))] H := hP
  have hD : va_D A [(h0, .inr (3, [.ref q5, .ref q16, .null, .int 0, .int 0, .int 0])), (q5, .inr (0, [.long 0, .long 0, .long 0, .long 0, .ref q7_q5])), (q7_q5, .inl (cI, 97, .inl (fun _ => 0))), (q16, .inr (2, [.ref q7_q16, .int 0, .long 0])), (q7_q16, .inl (cI, 64, .inl (fun _ => 0)))] := hD
  refine lv_aload_n (pc := 26) hx hb d_td_init_26 rfl (lv_at hl 0 rfl) ?_
  refine va_new (pc := 27) (D := D) (ci := 1) (fs := [.null, .null, .null, .int 0]) (C := "TorsionDesk$FinitePoints") (T := tX1) (N := 4) hx hb hB lX1 yX1 yX1_ok hown (hB _ zw_66) (hB _ zw_67) (hB _ zw_4) hK hP hD hS hA rfl (fun j hj => by rcases (show j = 0 ∨ j = 1 ∨ j = 2 ∨ j = 3 by omega) with rfl | rfl | rfl | rfl <;> rfl) (by rw [hR]; exact Nat.le_of_ble_eq_true rfl) (by rw [hR]; exact Nat.le_of_ble_eq_true rfl) d_td_init_27 (fun q27 H hP hD hS => ?_)
  have hP : va_P D vwCl [(h0, .inr (3, [.ref q5, .ref q16, .null, .int 0, .int 0, .int 0])), (q5, .inr (0, [.long 0, .long 0, .long 0, .long 0, .ref q7_q5])), (q7_q5, .inl (cI, 97, .inl (fun _ => 0))), (q16, .inr (2, [.ref q7_q16, .int 0, .long 0])), (q7_q16, .inl (cI, 64, .inl (fun _ => 0))), (q27, .inr (1, [.null, .null, .null, .int 0]))] H := hP
  have hD : va_D A [(h0, .inr (3, [.ref q5, .ref q16, .null, .int 0, .int 0, .int 0])), (q5, .inr (0, [.long 0, .long 0, .long 0, .long 0, .ref q7_q5])), (q7_q5, .inl (cI, 97, .inl (fun _ => 0))), (q16, .inr (2, [.ref q7_q16, .int 0, .long 0])), (q7_q16, .inl (cI, 64, .inl (fun _ => 0))), (q27, .inr (1, [.null, .null, .null, .int 0]))] := hD
  refine W.cs (cells' := 5) (slots' := 173) rfl rfl ?_
  refine lv_dup (pc := 30) hx hb d_td_init_30 rfl ?_
  have hPc := hP.sub (ws' := [(q27, .inr (1, [.null, .null, .null, .int 0]))]) [5] rfl
  have hDc := hD.sub (ws' := [(q27, .inr (1, [.null, .null, .null, .int 0]))]) [5] (by decide) rfl
  have hFc := va_free (wc := [(q27, .inr (1, [.null, .null, .null, .int 0]))]) hD hS hA [5] rfl
  refine va_callv (pc := 31) (va_runIN (As := []) (rest := [.ref q27, .ref h0]) ⟨hx, hb, hml, hown, hB⟩ (kc_fp_init l D cI cJ q27 H.size) ⟨va_cnB 0 hB (zgI zw_70) rfl rfl rfl hX.2.2 (hB _ zw_4) (by decide +kernel) ⟨by rw [hR]; exact Nat.le_of_ble_eq_true rfl, by rw [hR]; exact Nat.le_of_ble_eq_true rfl⟩, rfl, (hB _ zw_69)⟩ ⟨zPn_blind (fun _ _ _ _ h => h), fun U hU hW => ⟨⟨rfl, by rw [hU]; exact hPc, va_K.moved hW.alike hK, hDc.weaken (fun _ _ _ _ => trivial)⟩, by rw [hU], trivial⟩⟩ rfl rfl hl.1 rfl (lv_room (Nat.le_of_ble_eq_true rfl)) d_td_init_31 ⟨by rw [hR]; exact Nat.le_of_ble_eq_true rfl, by rw [hR]; exact Nat.le_of_ble_eq_true rfl⟩) hS (fun q _ h => hFc q h) hFc (fun u t H1 locs ht hvm hw hB1 hz1 hk1 hS => ?_)
  obtain ⟨q7_q27, q15_q27, q23_q27⟩ := u
  obtain ⟨hP1, hD1⟩ := hB1
  rw [ht] at hP1
  obtain ⟨hP, hD⟩ := va_join (wr := [(h0, .inr (3, [.ref q5, .ref q16, .null, .int 0, .int 0, .int 0])), (q5, .inr (0, [.long 0, .long 0, .long 0, .long 0, .ref q7_q5])), (q7_q5, .inl (cI, 97, .inl (fun _ => 0))), (q16, .inr (2, [.ref q7_q16, .int 0, .long 0])), (q7_q16, .inl (cI, 64, .inl (fun _ => 0)))]) (w1 := [(q27, .inr (1, [.ref q7_q27, .ref q15_q27, .ref q23_q27, .int 0])), (q7_q27, .inl (cI, 32, .inl (fun _ => 0))), (q15_q27, .inl (cI, 32, .inl (fun _ => 0))), (q23_q27, .inl (cI, 32, .inl (fun _ => 0)))]) hP hD [5] [0, 1, 2, 3, 4] rfl rfl (by decide) (by decide) hk1 hFc hP1 hD1
  generalize H1 = H at hP hS ⊢
  have hP : va_P D vwCl [(h0, .inr (3, [.ref q5, .ref q16, .null, .int 0, .int 0, .int 0])), (q5, .inr (0, [.long 0, .long 0, .long 0, .long 0, .ref q7_q5])), (q7_q5, .inl (cI, 97, .inl (fun _ => 0))), (q16, .inr (2, [.ref q7_q16, .int 0, .long 0])), (q7_q16, .inl (cI, 64, .inl (fun _ => 0))), (q27, .inr (1, [.ref q7_q27, .ref q15_q27, .ref q23_q27, .int 0])), (q7_q27, .inl (cI, 32, .inl (fun _ => 0))), (q15_q27, .inl (cI, 32, .inl (fun _ => 0))), (q23_q27, .inl (cI, 32, .inl (fun _ => 0)))] H := hP
  have hD : va_D A [(h0, .inr (3, [.ref q5, .ref q16, .null, .int 0, .int 0, .int 0])), (q5, .inr (0, [.long 0, .long 0, .long 0, .long 0, .ref q7_q5])), (q7_q5, .inl (cI, 97, .inl (fun _ => 0))), (q16, .inr (2, [.ref q7_q16, .int 0, .long 0])), (q7_q16, .inl (cI, 64, .inl (fun _ => 0))), (q27, .inr (1, [.ref q7_q27, .ref q15_q27, .ref q23_q27, .int 0])), (q7_q27, .inl (cI, 32, .inl (fun _ => 0))), (q15_q27, .inl (cI, 32, .inl (fun _ => 0))), (q23_q27, .inl (cI, 32, .inl (fun _ => 0)))] := hD
  refine W.cs (cells' := 8) (slots' := 269) rfl rfl ?_
  refine va_putF (pc := 34) (D := D) (ci := 3) (v := .ref q27) (ty := .object "TorsionDesk$FinitePoints") (C := "TorsionDesk") (T := tX3) (N := 6) hx hb hB lX3 yX3 yX3_ok nX3 hown hK hP hD hS 0 rfl rfl 2 (by decide) (hB _ zw_91) (fun _ h9 => h9) rfl hin rfl (by decide +kernel) rfl rfl (Nat.le_of_ble_eq_true rfl) d_td_init_34 (fun H locs hP hD hS => ?_)
  have hP : va_P D vwCl [(h0, .inr (3, [.ref q5, .ref q16, .ref q27, .int 0, .int 0, .int 0])), (q5, .inr (0, [.long 0, .long 0, .long 0, .long 0, .ref q7_q5])), (q7_q5, .inl (cI, 97, .inl (fun _ => 0))), (q16, .inr (2, [.ref q7_q16, .int 0, .long 0])), (q7_q16, .inl (cI, 64, .inl (fun _ => 0))), (q27, .inr (1, [.ref q7_q27, .ref q15_q27, .ref q23_q27, .int 0])), (q7_q27, .inl (cI, 32, .inl (fun _ => 0))), (q15_q27, .inl (cI, 32, .inl (fun _ => 0))), (q23_q27, .inl (cI, 32, .inl (fun _ => 0)))] H := hP
  have hD : va_D A [(h0, .inr (3, [.ref q5, .ref q16, .ref q27, .int 0, .int 0, .int 0])), (q5, .inr (0, [.long 0, .long 0, .long 0, .long 0, .ref q7_q5])), (q7_q5, .inl (cI, 97, .inl (fun _ => 0))), (q16, .inr (2, [.ref q7_q16, .int 0, .long 0])), (q7_q16, .inl (cI, 64, .inl (fun _ => 0))), (q27, .inr (1, [.ref q7_q27, .ref q15_q27, .ref q23_q27, .int 0])), (q7_q27, .inl (cI, 32, .inl (fun _ => 0))), (q15_q27, .inl (cI, 32, .inl (fun _ => 0))), (q23_q27, .inl (cI, 32, .inl (fun _ => 0)))] := hD
  rw [hQ]
  exact W.vret (pc := 37) hx hb hr (fun t ht _ => ⟨⟨(q5, q7_q5, q16, q7_q16, q27, q7_q27, q15_q27, q23_q27), rfl, trivial, by rw [ht]; exact hP, by rw [hAe] at hD; exact hD⟩, by rw [← hAe]; exact hS.F ht⟩) (by rw [← hAe]; exact hS.2.2) d_td_init_37
abbrev rm_md_init : Room := { frames := 1, cells := 3, slots := 120, locals := 12 }
set_option maxHeartbeats 4000000 in
set_option maxRecDepth 100000 in
theorem kc_md_init (l : Launch) (D : va_G) (cI cJ : ClassId) (h0 sz : Nat) : Met l y_md_init zs_md_init rm_md_init (zPn [.ref h0] D [(h0, .inr (4, [.int 0, .int 0, .int 0, .int 0, .long 0, .long 0, .long 0, .long 0, .int 0, .null, .null, .null, .int 0, .int 0, .long 0, .long 0, .int 0, .int 0, .int 0, .int 0]))] [(cI, .int), (cJ, .long)] sz (fun _ => True)) (va_Qv (fun _ : Nat × Nat × Nat => True) (fun u t => match u with | (q7, q15, q23) => va_P D vwCl [(h0, .inr (4, [.int 0, .int 0, .int 0, .int 0, .long 0, .long 0, .long 0, .long 0, .int 0, .ref q7, .ref q15, .ref q23, .int 0, .int 0, .long 0, .long 0, .int 0, .int 0, .int 0, .int 0])), (q7, .inl (cI, 40, .inl (fun _ => 0))), (q15, .inl (cI, 40, .inl (fun _ => 0))), (q23, .inl (cI, 40, .inl (fun _ => 0)))] t.heap ∧ va_D (va_A [(h0, .inr (4, [.int 0, .int 0, .int 0, .int 0, .long 0, .long 0, .long 0, .long 0, .int 0, .null, .null, .null, .int 0, .int 0, .long 0, .long 0, .int 0, .int 0, .int 0, .int 0]))] sz) [(h0, .inr (4, [.int 0, .int 0, .int 0, .int 0, .long 0, .long 0, .long 0, .long 0, .int 0, .ref q7, .ref q15, .ref q23, .int 0, .int 0, .long 0, .long 0, .int 0, .int 0, .int 0, .int 0])), (q7, .inl (cI, 40, .inl (fun _ => 0))), (q15, .inl (cI, 40, .inl (fun _ => 0))), (q23, .inl (cI, 40, .inl (fun _ => 0)))]) (va_A [(h0, .inr (4, [.int 0, .int 0, .int 0, .int 0, .long 0, .long 0, .long 0, .long 0, .int 0, .null, .null, .null, .int 0, .int 0, .long 0, .long 0, .int 0, .int 0, .int 0, .int 0]))] sz)) 3 120 (va_A [(h0, .inr (4, [.int 0, .int 0, .int 0, .int 0, .long 0, .long 0, .long 0, .long 0, .int 0, .null, .null, .null, .int 0, .int 0, .long 0, .long 0, .int 0, .int 0, .int 0, .int 0]))] sz) := by
  refine zmN (by decide) (Nat.le_of_ble_eq_true rfl) ?_
  intro p e s m args below meth c R Q hR hQ hx hb hml hr hlocks hin hB hown hP hK hsz hX A hAe hD hA ls hl
  have hown : s.vm.findClass "TorsionDeskModel" = some m.cls := hown
  have hl : lv_has ls 1 [(0, .ref h0)] := hl
  have hS : va_S A s.heap s.heap [] := va_S.rf
  refine lv_aload_n (pc := 0) hx hb d_md_init_0 rfl (lv_at hl 0 rfl) ?_
  refine W.objInit (g := F0 m 1 ls [.ref h0]) hx hb hown (hB _ zw_416) (hB _ zw_20) (hB _ zw_21) rfl (by rw [hml]; exact hl.1) rfl d_md_init_1 (by rw [hR]; exact Nat.le_of_ble_eq_true rfl) (by rw [hR]; exact Nat.le_of_ble_eq_true rfl) ?_
  refine W.eq (g2 := F0 m 4 ls []) rfl ?_
  refine lv_aload_n (pc := 4) hx hb d_md_init_4 rfl (lv_at hl 0 rfl) ?_
  refine lv_bipush (pc := 5) (v := (40 : Int32)) hx hb d_md_init_5 (by decide) ?_
  refine va_newa (pc := 7) (atype := .int) (ty := .int) (a0 := (40, .inl (fun _ => 0))) hx hb (hB _ zw_46) rfl hK hP hD hS hA (fun _ => rfl) (by decide) (N' := 40) (by decide) (by decide +kernel) (by rw [hR]; exact Nat.le_of_ble_eq_true rfl) (by rw [hR]; exact Nat.le_of_ble_eq_true rfl) d_md_init_7 (fun q7 cA H hKn hP hD hS => ?_)
  obtain rfl : cI = cA := (zcA hKn 0 2 rfl rfl).symm
  have hP : va_P D vwCl [(h0, .inr (4, [.int 0, .int 0, .int 0, .int 0, .long 0, .long 0, .long 0, .long 0, .int 0, .null, .null, .null, .int 0, .int 0, .long 0, .long 0, .int 0, .int 0, .int 0, .int 0])), (q7, .inl (cI, 40, .inl (fun _ => 0)))] H := hP
  have hD : va_D A [(h0, .inr (4, [.int 0, .int 0, .int 0, .int 0, .long 0, .long 0, .long 0, .long 0, .int 0, .null, .null, .null, .int 0, .int 0, .long 0, .long 0, .int 0, .int 0, .int 0, .int 0])), (q7, .inl (cI, 40, .inl (fun _ => 0)))] := hD
  refine W.cs (cells' := 1) (slots' := 40) rfl rfl ?_
  refine va_putF (pc := 9) (D := D) (ci := 4) (v := .ref q7) (ty := .array .int) (C := "TorsionDeskModel") (T := tX4) (N := 20) hx hb hB lX4 yX4 yX4_ok nX4 hown hK hP hD hS 0 rfl rfl 9 (by decide) (hB _ zw_426) (fun _ h9 => h9) rfl hin rfl (by decide +kernel) rfl rfl (Nat.le_of_ble_eq_true rfl) d_md_init_9 (fun H locs hP hD hS => ?_)
  have hP : va_P D vwCl [(h0, .inr (4, [.int 0, .int 0, .int 0, .int 0, .long 0, .long 0, .long 0, .long 0, .int 0, .ref q7, .null, .null, .int 0, .int 0, .long 0, .long 0, .int 0, .int 0, .int 0, .int 0])), (q7, .inl (cI, 40, .inl (fun _ => 0)))] H := hP
  have hD : va_D A [(h0, .inr (4, [.int 0, .int 0, .int 0, .int 0, .long 0, .long 0, .long 0, .long 0, .int 0, .ref q7, .null, .null, .int 0, .int 0, .long 0, .long 0, .int 0, .int 0, .int 0, .int 0])), (q7, .inl (cI, 40, .inl (fun _ => 0)))] := hD
  refine lv_aload_n (pc := 12) hx hb d_md_init_12 rfl (lv_at hl 0 rfl) ?_
  refine lv_bipush (pc := 13) (v := (40 : Int32)) hx hb d_md_init_13 (by decide) ?_
  refine va_newa (pc := 15) (atype := .int) (ty := .int) (a0 := (40, .inl (fun _ => 0))) hx hb (hB _ zw_46) rfl hK hP hD hS hA (fun _ => rfl) (by decide) (N' := 40) (by decide) (by decide +kernel) (by rw [hR]; exact Nat.le_of_ble_eq_true rfl) (by rw [hR]; exact Nat.le_of_ble_eq_true rfl) d_md_init_15 (fun q15 cA H hKn hP hD hS => ?_)
  obtain rfl : cI = cA := (zcA hKn 0 2 rfl rfl).symm
  have hP : va_P D vwCl [(h0, .inr (4, [.int 0, .int 0, .int 0, .int 0, .long 0, .long 0, .long 0, .long 0, .int 0, .ref q7, .null, .null, .int 0, .int 0, .long 0, .long 0, .int 0, .int 0, .int 0, .int 0])), (q7, .inl (cI, 40, .inl (fun _ => 0))), (q15, .inl (cI, 40, .inl (fun _ => 0)))] H := hP
  have hD : va_D A [(h0, .inr (4, [.int 0, .int 0, .int 0, .int 0, .long 0, .long 0, .long 0, .long 0, .int 0, .ref q7, .null, .null, .int 0, .int 0, .long 0, .long 0, .int 0, .int 0, .int 0, .int 0])), (q7, .inl (cI, 40, .inl (fun _ => 0))), (q15, .inl (cI, 40, .inl (fun _ => 0)))] := hD
  refine W.cs (cells' := 2) (slots' := 80) rfl rfl ?_
  refine va_putF (pc := 17) (D := D) (ci := 4) (v := .ref q15) (ty := .array .int) (C := "TorsionDeskModel") (T := tX4) (N := 20) hx hb hB lX4 yX4 yX4_ok nX4 hown hK hP hD hS 0 rfl rfl 10 (by decide) (hB _ zw_427) (fun _ h9 => h9) rfl hin rfl (by decide +kernel) rfl rfl (Nat.le_of_ble_eq_true rfl) d_md_init_17 (fun H locs hP hD hS => ?_)
  have hP : va_P D vwCl [(h0, .inr (4, [.int 0, .int 0, .int 0, .int 0, .long 0, .long 0, .long 0, .long 0, .int 0, .ref q7, .ref q15, .null, .int 0, .int 0, .long 0, .long 0, .int 0, .int 0, .int 0, .int 0])), (q7, .inl (cI, 40, .inl (fun _ => 0))), (q15, .inl (cI, 40, .inl (fun _ => 0)))] H := hP
  have hD : va_D A [(h0, .inr (4, [.int 0, .int 0, .int 0, .int 0, .long 0, .long 0, .long 0, .long 0, .int 0, .ref q7, .ref q15, .null, .int 0, .int 0, .long 0, .long 0, .int 0, .int 0, .int 0, .int 0])), (q7, .inl (cI, 40, .inl (fun _ => 0))), (q15, .inl (cI, 40, .inl (fun _ => 0)))] := hD
  refine lv_aload_n (pc := 20) hx hb d_md_init_20 rfl (lv_at hl 0 rfl) ?_
  refine lv_bipush (pc := 21) (v := (40 : Int32)) hx hb d_md_init_21 (by decide) ?_
  refine va_newa (pc := 23) (atype := .int) (ty := .int) (a0 := (40, .inl (fun _ => 0))) hx hb (hB _ zw_46) rfl hK hP hD hS hA (fun _ => rfl) (by decide) (N' := 40) (by decide) (by decide +kernel) (by rw [hR]; exact Nat.le_of_ble_eq_true rfl) (by rw [hR]; exact Nat.le_of_ble_eq_true rfl) d_md_init_23 (fun q23 cA H hKn hP hD hS => ?_)
  obtain rfl : cI = cA := (zcA hKn 0 2 rfl rfl).symm
  have hP : va_P D vwCl [(h0, .inr (4, [.int 0, .int 0, .int 0, .int 0, .long 0, .long 0, .long 0, .long 0, .int 0, .ref q7, .ref q15, .null, .int 0, .int 0, .long 0, .long 0, .int 0, .int 0, .int 0, .int 0])), (q7, .inl (cI, 40, .inl (fun _ => 0))), (q15, .inl (cI, 40, .inl (fun _ => 0))), (q23, .inl (cI, 40, .inl (fun _ => 0)))] H := hP
  have hD : va_D A [(h0, .inr (4, [.int 0, .int 0, .int 0, .int 0, .long 0, .long 0, .long 0, .long 0, .int 0, .ref q7, .ref q15, .null, .int 0, .int 0, .long 0, .long 0, .int 0, .int 0, .int 0, .int 0])), (q7, .inl (cI, 40, .inl (fun _ => 0))), (q15, .inl (cI, 40, .inl (fun _ => 0))), (q23, .inl (cI, 40, .inl (fun _ => 0)))] := hD
  refine W.cs (cells' := 3) (slots' := 120) rfl rfl ?_
  refine va_putF (pc := 25) (D := D) (ci := 4) (v := .ref q23) (ty := .array .int) (C := "TorsionDeskModel") (T := tX4) (N := 20) hx hb hB lX4 yX4 yX4_ok nX4 hown hK hP hD hS 0 rfl rfl 11 (by decide) (hB _ zw_428) (fun _ h9 => h9) rfl hin rfl (by decide +kernel) rfl rfl (Nat.le_of_ble_eq_true rfl) d_md_init_25 (fun H locs hP hD hS => ?_)
  have hP : va_P D vwCl [(h0, .inr (4, [.int 0, .int 0, .int 0, .int 0, .long 0, .long 0, .long 0, .long 0, .int 0, .ref q7, .ref q15, .ref q23, .int 0, .int 0, .long 0, .long 0, .int 0, .int 0, .int 0, .int 0])), (q7, .inl (cI, 40, .inl (fun _ => 0))), (q15, .inl (cI, 40, .inl (fun _ => 0))), (q23, .inl (cI, 40, .inl (fun _ => 0)))] H := hP
  have hD : va_D A [(h0, .inr (4, [.int 0, .int 0, .int 0, .int 0, .long 0, .long 0, .long 0, .long 0, .int 0, .ref q7, .ref q15, .ref q23, .int 0, .int 0, .long 0, .long 0, .int 0, .int 0, .int 0, .int 0])), (q7, .inl (cI, 40, .inl (fun _ => 0))), (q15, .inl (cI, 40, .inl (fun _ => 0))), (q23, .inl (cI, 40, .inl (fun _ => 0)))] := hD
  rw [hQ]
  exact W.vret (pc := 28) hx hb hr (fun t ht _ => ⟨⟨(q7, q15, q23), rfl, trivial, by rw [ht]; exact hP, by rw [hAe] at hD; exact hD⟩, by rw [← hAe]; exact hS.F ht⟩) (by rw [← hAe]; exact hS.2.2) d_md_init_28
