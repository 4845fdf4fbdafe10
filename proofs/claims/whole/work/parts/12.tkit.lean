/-! methods that return or throw -/
/-- the words on the throwables that warm tables keep by their own laws -/
def zNG : List Cond := [.declares (Bundle.initS "java/lang/RuntimeException"), .declares (Bundle.initS "java/lang/Exception"), .declares (Bundle.initS Bundle.tN), .castable "java/lang/IllegalArgumentException" "java/lang/IllegalArgumentException", .castable "java/lang/ArithmeticException" "java/lang/ArithmeticException", .castable "java/lang/IllegalStateException" "java/lang/IllegalStateException"]
def zST : List (Nat × String) := [(36, "a coefficient is not -6 .. 6"), (47, "the curve is singular"), (129, "no prime 3 .. 97"), (133, "there is no curve"), (139, "the prime divides the discriminant")]
def zNC : List (String × String) := [("java/lang/ArithmeticException", "java/lang/IllegalArgumentException"), ("java/lang/IllegalStateException", "java/lang/IllegalArgumentException"), ("java/lang/ArithmeticException", "java/lang/IllegalStateException")]
theorem zNG_warm {s U : State} (hW : s.WarmedH U.vm) (h : ∀ w ∈ zNG, va_Nw w s) : ∀ w ∈ zNG, va_Nw w U := by
  intro w hw
  have h1 := h w hw
  simp only [zNG, List.mem_cons, List.not_mem_nil, or_false] at hw
  rcases hw with rfl | rfl | rfl | rfl | rfl | rfl
  · exact va_Nw.warmD hW h1
  · exact va_Nw.warmD hW h1
  · exact va_Nw.warmD hW h1
  · exact va_Nw.warmC hW h1
  · exact va_Nw.warmC hW h1
  · exact va_Nw.warmC hW h1
theorem zNG_ot : ∀ w ∈ zNG, w.onTables = true := by decide +kernel
def zTX (A : Nat → Prop) (U : State) : Prop := (vx_Zq Bundle.tN "UNASSIGNED_STACK" Bundle.steD A U U.heap ∧ vx_Zq Bundle.tN "SUPPRESSED_SENTINEL" Bundle.listD A U U.heap) ∧ (∀ w ∈ zNG, va_Nw w U) ∧ (∀ x ∈ zST, ∃ sa, vk_R "TorsionDesk" x.1 x.2 sa U) ∧ ∀ x ∈ zNC, va_Nc x.1 x.2 U
theorem zTX.call {A : Nat → Prop} {U : State} {g : JFrame} {mk : MethodId} {a : Array Value} (h : zTX A U) : zTX A (U.calling g mk a) :=
  ⟨⟨vx_Zq.moved (u := U) (U := U.calling g mk a) (Vm.Alike.refl U.vm) h.1.1, vx_Zq.moved (u := U) (U := U.calling g mk a) (Vm.Alike.refl U.vm) h.1.2⟩, fun w hw => va_Nw.same (u := U) (zNG_ot w hw) rfl (h.2.1 w hw), fun x hx => by obtain ⟨sa, h9⟩ := h.2.2.1 x hx; exact ⟨sa, vk_R.same (u := U) rfl h9⟩, fun x hx => va_Nc.moved (u := U) (U := U.calling g mk a) (Vm.Alike.refl U.vm) (h.2.2.2 x hx)⟩
theorem zTX.of {A B : Nat → Prop} {s U : State} {H : Heap} {locs : List Loc} (h : zTX A s) (hS : va_S A s.heap H locs) (hU : U.heap = H) (hW : s.WarmedH U.vm) (hAB : ∀ q, B q → A q) : zTX B U := by
  obtain ⟨⟨h1, h2⟩, h3, h4, h5⟩ := h
  refine ⟨⟨?_, ?_⟩, zNG_warm hW h3, fun x hx => ?_, fun x hx => va_Nc.moved hW.alike (h5 x hx)⟩
  · rw [hU]; exact vx_Zq.moved hW.alike ((h1.kept hS.2.1).narrow hAB)
  · rw [hU]; exact vx_Zq.moved hW.alike ((h2.kept hS.2.1).narrow hAB)
  · obtain ⟨sa, h9⟩ := h4 x hx
    exact ⟨sa, vk_R.warm hW h9⟩
def zPg (av : List Value) (D : va_G) (Z : va_W) (tys : List (ClassId × FieldType)) (X : State → Prop) : Array Value → State → Prop := fun v U => zPc av D Z tys v U ∧ X U
theorem zPg_blind {av : List Value} {D : va_G} {Z : va_W} {tys : List (ClassId × FieldType)} {X : State → Prop} (hX : ∀ (U : State) (g : JFrame) (mk : MethodId) (a : Array Value), X U → X (U.calling g mk a)) : FrameBlind (zPg av D Z tys X) := fun a U g mk q => ⟨zPc_blind a U g mk q.1, hX U g mk a q.2⟩
/-- it answers with its world, or throws -/
def zvQ (res : (Option Value × va_W) ⊕ String) (D : va_G) (A : Nat → Prop) : Array Value → State → Outcome → State → Prop := fun a st o t => ∃ (ov : Option Value) (Z1 : va_W), res = .inl (ov, Z1) ∧ zWr ov D A Z1 a st o t
def zvX (res : (Option Value × va_W) ⊕ String) (D : va_G) (A : Nat → Prop) (Z0 : va_W) : String → State → State → Prop := fun E st t => res = .inr E ∧ va_P D vwCl Z0 t.heap ∧ va_F A st t
theorem zmT {l : Launch} {y : MethodName} {rm : Room} {cc : ByteArray} {maxL : Nat} {ret : Option FieldType} {av : List Value} {D : va_G} {Z : va_W} {tys : List (ClassId × FieldType)} {Qc : Array Value → State → Outcome → State → Prop} {XC : String → State → State → Prop} {mc ms : Nat} {free : Addr → Prop} {X : State → Prop}
    (hy : plainName y.cls = true) (hlen : (lg_sl av).length ≤ maxL)
    (body : ∀ (p : Program) (e : Env) (s : State) (m : MethodId) (args : Array Value) (below : List Frame) (meth : Method) (c : Code) (R : Room) (Q : State → Prop), R = rm → Q = vx_MQ below Qc XC args s mc ms free → p.tables.exec = Jvm.exec → c.code = cc → c.maxLocals = maxL → meth.sig.returnType = ret → meth.locks = false → (∀ w ∈ zB, w.before args s = true) → s.vm.findClass y.cls = some m.cls → (∀ x ∈ c.exceptionTable.toList, False) → va_P D vwCl Z s.heap → va_K D vwCl tys s → va_D (fun _ => True) Z → X s → ∀ ls : Array Slot, lv_has ls maxL (lv_args 0 av) → W p l e R s m args below meth c s.heap [] 0 0 Q (F0 m 0 ls [])) : vx_Met l y (Cond.code y cc maxL ret :: zB) rm (zPg av D Z tys X) Qc XC mc ms free := by
  refine vx_ofW (cc := cc) (maxL := maxL) (ret := ret) hy rfl ?_
  intro p e s m args below meth c s₁ B hml hnt hv
  obtain ⟨⟨hav, hP, hK, hD⟩, hX⟩ := hv
  have hl := lv_entry av (n := maxL) hlen
  have hts := atoms_spec (ws := Cond.code y cc maxL ret :: zB) B.pre
  have hx := body p e s m args below meth c _ _ rfl rfl B.exec B.bytes hml B.returns B.notSynchronized (fun w h => hts w (List.mem_cons_of_mem _ h)) (findClass_of_methodNamed B.named) hnt hP hK hD hX _ hl
  subst hav
  rw [lg_entry_eq]
  exact hx
theorem zkeep {D : va_G} {Z : va_W} {A : Nat → Prop} {s t : State} {H : Heap} {locs : List Loc} (hP : va_P D vwCl Z H) (hS : va_S A s.heap H locs) (h1 : H.size ≤ t.heap.size) (h2 : ∀ q : Nat, q < H.size → t.heap[q]? = H[q]?) : va_P D vwCl Z t.heap ∧ va_F A s t :=
  ⟨hP.kept (fun k q hk => h2 q.1 (hP k q hk).lt), Nat.le_trans hS.1 h1, fun q a b => by rw [h2 q (Nat.lt_of_lt_of_le a hS.1)]; exact hS.2.1 q a b⟩
theorem zhat {args : Array Value} {s : State} {A : Nat → Prop} {L : List Cond} (hB : ∀ w ∈ zB, w.before args s = true) (h1 : ∀ w ∈ L.filter goodWord, w ∈ lw_tbl) (h2 : ∀ w ∈ L.filter (fun w => !goodWord w), w ∈ zNG) (hX : zTX A s) : ∀ w ∈ L, w.before args s = true :=
  vx_hat (fun w h => hB w (List.mem_filter.mpr ⟨h1 w h, (List.mem_filter.mp h).2⟩)) h2 (fun w h => va_Nw.use (zNG_ot w h) (hX.2.1 w h))
