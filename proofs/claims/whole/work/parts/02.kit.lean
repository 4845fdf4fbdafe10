/-! own rows: contracts by a functional model -/
theorem zbind {α β : Type} {o : Option α} {f : α → Option β} {r : β} (h : o.bind f = some r) : ∃ a, o = some a ∧ f a = some r := by
  cases o with
  | none => cases h
  | some a => exact ⟨a, rfl, h⟩
/-- a method's start: its arguments, its world, the tables -/
def zPc (av : List Value) (D : va_G) (Z : va_W) (tys : List (ClassId × FieldType)) : Array Value → State → Prop := fun v U => v = av.toArray ∧ va_P D vwCl Z U.heap ∧ va_K D vwCl tys U ∧ va_D (fun _ => True) Z
theorem zPc_blind {av : List Value} {D : va_G} {Z : va_W} {tys : List (ClassId × FieldType)} : FrameBlind (zPc av D Z tys) := fun a U g mk q => ⟨q.1, q.2.1, va_K.moved (u := U) (U := U.calling g mk a) (Vm.Alike.refl U.vm) q.2.2.1, q.2.2.2⟩
/-- the addresses of a world -/
def zIn (Z : va_W) : Nat → Prop := fun q => ∃ (k : Nat) (e : va_E), Z[k]? = some (q, e)
theorem zIn_self {A : Nat → Prop} {Z : va_W} (h : va_D A Z) : va_D (zIn Z) Z := ⟨h.1, fun k q hk => ⟨k, q.2, hk⟩⟩
/-- it answers, the heap is as it was -/
def zRd (o : Option Value) : Array Value → State → Outcome → State → Prop := fun _ st oc t => oc = .returned o ∧ t.heap = st.heap
/-- it answers, its world is Z1 now, nothing outside A has changed -/
def zWr (o : Option Value) (D : va_G) (A : Nat → Prop) (Z1 : va_W) : Array Value → State → Outcome → State → Prop := fun _ st oc t => oc = .returned o ∧ va_P D vwCl Z1 t.heap ∧ va_F A st t
theorem zm {l : Launch} {y : MethodName} {rm : Room} {cc : ByteArray} {maxL : Nat} {ret : Option FieldType} {av : List Value} {D : va_G} {Z : va_W} {tys : List (ClassId × FieldType)} {Qc : Array Value → State → Outcome → State → Prop} {mc ms : Nat} {free : Addr → Prop}
    (hy : plainName y.cls = true) (hlen : (lg_sl av).length ≤ maxL)
    (body : ∀ (p : Program) (e : Env) (s : State) (m : MethodId) (args : Array Value) (below : List Frame) (meth : Method) (c : Code) (R : Room) (Q : State → Prop), R = rm → Q = MQ below Qc args s mc ms free → args = av.toArray → p.tables.exec = Jvm.exec → c.code = cc → c.maxLocals = maxL → meth.sig.returnType = ret → meth.locks = false → meth.name = y.name → (∀ w ∈ zB, w.before args s = true) → s.vm.findClass y.cls = some m.cls → va_P D vwCl Z s.heap → va_K D vwCl tys s → va_D (fun _ => True) Z → ∀ ls : Array Slot, lv_has ls maxL (lv_args 0 av) → W p l e R s m args below meth c s.heap [] 0 0 Q (F0 m 0 ls [])) : Met l y (Cond.code y cc maxL ret :: zB) rm (zPc av D Z tys) Qc mc ms free := by
  refine Met.ofW (cc := cc) (maxL := maxL) (ret := ret) hy rfl ?_
  intro p e s m args below meth c s₁ B hml hv
  obtain ⟨hav, hP, hK, hD⟩ := hv
  have hl := lv_entry av (n := maxL) hlen
  have hts := atoms_spec (ws := Cond.code y cc maxL ret :: zB) B.pre
  have hx := body p e s m args below meth c _ _ rfl rfl hav B.exec B.bytes hml B.returns B.notSynchronized (name_of_methodNamed B.named B.method).1 (fun w h => hts w (List.mem_cons_of_mem _ h)) (findClass_of_methodNamed B.named) hP hK hD _ hl
  subst hav
  rw [lg_entry_eq]
  exact hx
theorem zmF {l : Launch} {y : MethodName} {rm : Room} {cc : ByteArray} {maxL : Nat} {ret : Option FieldType} {av : List Value} {D : va_G} {Z : va_W} {tys : List (ClassId × FieldType)} {Qc : Array Value → State → Outcome → State → Prop} {mc ms : Nat} {free : Addr → Prop}
    (hy : plainFor y = true) (hlen : (lg_sl av).length ≤ maxL)
    (body : ∀ (p : Program) (e : Env) (s : State) (m : MethodId) (args : Array Value) (below : List Frame) (meth : Method) (c : Code) (R : Room) (Q : State → Prop), R = rm → Q = MQ below Qc args s mc ms free → args = av.toArray → p.tables.exec = Jvm.exec → c.code = cc → c.maxLocals = maxL → meth.sig.returnType = ret → meth.locks = false → meth.name = y.name → (∀ w ∈ zB, w.before args s = true) → s.vm.findClass y.cls = some m.cls → va_P D vwCl Z s.heap → va_K D vwCl tys s → va_D (fun _ => True) Z → ∀ ls : Array Slot, lv_has ls maxL (lv_args 0 av) → W p l e R s m args below meth c s.heap [] 0 0 Q (F0 m 0 ls [])) : Met l y (Cond.code y cc maxL ret :: zB) rm (zPc av D Z tys) Qc mc ms free := by
  refine va_MetF (cc := cc) (maxL := maxL) (ret := ret) hy rfl ?_
  intro p e s m args below meth c s₁ B hml hv
  obtain ⟨hav, hP, hK, hD⟩ := hv
  have hl := lv_entry av (n := maxL) hlen
  have hts := atoms_spec (ws := Cond.code y cc maxL ret :: zB) B.pre
  have hx := body p e s m args below meth c _ _ rfl rfl hav B.exec B.bytes hml B.returns B.notSynchronized (name_of_methodNamed B.named B.method).1 (fun w h => hts w (List.mem_cons_of_mem _ h)) (findClass_of_methodNamed B.named) hP hK hD _ hl
  subst hav
  rw [lg_entry_eq]
  exact hx
/-- the table of primes: a static array that nobody writes -/
def zpr (j : Nat) : Int32 := ([3, 5, 7, 11, 13, 17, 19, 23, 29, 31, 37, 41, 43, 47, 53, 59, 61, 67, 71, 73, 79, 83, 89, 97] : List Int32).getD j 0
def zZX (t : Nat) (A : Nat → Prop) (U : State) : Prop := va_Z "TorsionDesk" "PRIMES" "[I" (.ref t) A U U.heap ∧ va_T .int t 24 (fun j => .int (zpr j)) A U U.heap
def zPx (av : List Value) (D : va_G) (Z : va_W) (tys : List (ClassId × FieldType)) (t : Nat) : Array Value → State → Prop := fun v U => zPc av D Z tys v U ∧ zZX t (zIn Z) U
theorem zZX.call {t : Nat} {A : Nat → Prop} {U : State} {g : JFrame} {mk : MethodId} {a : Array Value} (h : zZX t A U) : zZX t A (U.calling g mk a) := ⟨va_Z.moved (u := U) (U := U.calling g mk a) (Vm.Alike.refl U.vm) h.1, va_T.moved (u := U) (U := U.calling g mk a) (Vm.Alike.refl U.vm) h.2⟩
theorem zPx_blind {av : List Value} {D : va_G} {Z : va_W} {tys : List (ClassId × FieldType)} {t : Nat} : FrameBlind (zPx av D Z tys t) := fun a U g mk q => ⟨zPc_blind a U g mk q.1, zZX.call q.2⟩
theorem zZX.of {t : Nat} {A B : Nat → Prop} {s U : State} {H : Heap} {locs : List Loc} (hZ : va_Z "TorsionDesk" "PRIMES" "[I" (.ref t) A s s.heap) (hT : va_T .int t 24 (fun j => .int (zpr j)) A s s.heap) (hS : va_S A s.heap H locs) (hU : U.heap = H) (hW : s.vm.Alike U.vm) (hAB : ∀ q, B q → A q) : zZX t B U := by
  have h1 := (hZ.kept (H1 := H) (fun a h1 h2 => hS.2.1 a h1 h2)).narrow hAB
  have h2 := (hT.kept (H1 := H) (fun a h1 h2 => hS.2.1 a h1 h2)).narrow hAB
  exact ⟨by rw [hU]; exact va_Z.moved hW h1, by rw [hU]; exact va_T.moved hW h2⟩
theorem zmX {t : Nat} {l : Launch} {y : MethodName} {rm : Room} {cc : ByteArray} {maxL : Nat} {ret : Option FieldType} {av : List Value} {D : va_G} {Z : va_W} {tys : List (ClassId × FieldType)} {Qc : Array Value → State → Outcome → State → Prop} {mc ms : Nat} {free : Addr → Prop}
    (hy : plainName y.cls = true) (hlen : (lg_sl av).length ≤ maxL)
    (body : ∀ (p : Program) (e : Env) (s : State) (m : MethodId) (args : Array Value) (below : List Frame) (meth : Method) (c : Code) (R : Room) (Q : State → Prop), R = rm → Q = MQ below Qc args s mc ms free → args = av.toArray → p.tables.exec = Jvm.exec → c.code = cc → c.maxLocals = maxL → meth.sig.returnType = ret → meth.locks = false → meth.name = y.name → (∀ w ∈ zB, w.before args s = true) → s.vm.findClass y.cls = some m.cls → va_P D vwCl Z s.heap → va_K D vwCl tys s → va_D (fun _ => True) Z → va_Z "TorsionDesk" "PRIMES" "[I" (.ref t) (zIn Z) s s.heap → va_T .int t 24 (fun j => .int (zpr j)) (zIn Z) s s.heap → ∀ ls : Array Slot, lv_has ls maxL (lv_args 0 av) → W p l e R s m args below meth c s.heap [] 0 0 Q (F0 m 0 ls [])) : Met l y (Cond.code y cc maxL ret :: zB) rm (zPx av D Z tys t) Qc mc ms free := by
  refine Met.ofW (cc := cc) (maxL := maxL) (ret := ret) hy rfl ?_
  intro p e s m args below meth c s₁ B hml hv
  obtain ⟨⟨hav, hP, hK, hD⟩, hZ, hT⟩ := hv
  have hl := lv_entry av (n := maxL) hlen
  have hts := atoms_spec (ws := Cond.code y cc maxL ret :: zB) B.pre
  have hx := body p e s m args below meth c _ _ rfl rfl hav B.exec B.bytes hml B.returns B.notSynchronized (name_of_methodNamed B.named B.method).1 (fun w h => hts w (List.mem_cons_of_mem _ h)) (findClass_of_methodNamed B.named) hP hK hD hZ hT _ hl
  subst hav
  rw [lg_entry_eq]
  exact hx
section ZK
variable {p : Program} {l : Launch} {e : Env} {R : Room} {s : State} {m : MethodId} {args : Array Value} {below : List Frame} {meth : Method} {c : Code} {H : Heap} {locs : List Loc} {cells slots : Nat} {Q : State → Prop}
variable {cc bytes : ByteArray} {pc : Nat} {ls : Array Slot} {rest st0 As : List Value} {D : va_G} {A A0 : Nat → Prop} {H0 : Heap} {tys : List (ClassId × FieldType)} {ws Ts : List Cond} {rm : Room} {y : MethodName} {own C : String} {index nL maxL n ci : Nat} {ret : Option FieldType} {b : Nat} {o : Option Value} {Z Zc Z1 : va_W} {q : vw_C} {fs : List Value}
theorem zl_eq (hexec : p.tables.exec = Jvm.exec) (hb : c.code = cc) {x y : Int64} {off : Int} {tgt : Nat} (hd1 : decode cc pc = .ok (.lcmp, 1)) (hd2 : decode cc (pc + 1) = .ok (.ifCond .eq off, 3)) (ht : ((pc + 1 : Nat) : Int) + off = (tgt : Int))
    (kt : x = y → W p l e R s m args below meth c H locs cells slots Q (F0 m tgt ls rest)) (kf : ¬ x = y → W p l e R s m args below meth c H locs cells slots Q (F0 m (pc + 1 + 3) ls rest)) : W p l e R s m args below meth c H locs cells slots Q (F0 m pc ls (.long y :: .long x :: rest)) :=
  W.lcmp hexec hb hd1 (lv_if_eq hexec hb hd2 ht (fun h => kt ((lg_cmp_eq x y).mp h)) (fun h => kf (fun z => h ((lg_cmp_eq x y).mpr z))))
theorem zl_ne (hexec : p.tables.exec = Jvm.exec) (hb : c.code = cc) {x y : Int64} {off : Int} {tgt : Nat} (hd1 : decode cc pc = .ok (.lcmp, 1)) (hd2 : decode cc (pc + 1) = .ok (.ifCond .ne off, 3)) (ht : ((pc + 1 : Nat) : Int) + off = (tgt : Int))
    (kt : ¬ x = y → W p l e R s m args below meth c H locs cells slots Q (F0 m tgt ls rest)) (kf : x = y → W p l e R s m args below meth c H locs cells slots Q (F0 m (pc + 1 + 3) ls rest)) : W p l e R s m args below meth c H locs cells slots Q (F0 m pc ls (.long y :: .long x :: rest)) :=
  W.lcmp hexec hb hd1 (lv_if_ne hexec hb hd2 ht (fun h => kt (fun z => h ((lg_cmp_eq x y).mpr z))) (fun h => kf ((lg_cmp_eq x y).mp h)))
theorem zl_lt (hexec : p.tables.exec = Jvm.exec) (hb : c.code = cc) {x y : Int64} {off : Int} {tgt : Nat} (hd1 : decode cc pc = .ok (.lcmp, 1)) (hd2 : decode cc (pc + 1) = .ok (.ifCond .lt off, 3)) (ht : ((pc + 1 : Nat) : Int) + off = (tgt : Int))
    (kt : x < y → W p l e R s m args below meth c H locs cells slots Q (F0 m tgt ls rest)) (kf : ¬ x < y → W p l e R s m args below meth c H locs cells slots Q (F0 m (pc + 1 + 3) ls rest)) : W p l e R s m args below meth c H locs cells slots Q (F0 m pc ls (.long y :: .long x :: rest)) :=
  W.lcmp hexec hb hd1 (lv_if_lt hexec hb hd2 ht (fun h => kt ((lg_cmp_lt x y).mp h)) (fun h => kf (fun z => h ((lg_cmp_lt x y).mpr z))))
theorem zl_ge (hexec : p.tables.exec = Jvm.exec) (hb : c.code = cc) {x y : Int64} {off : Int} {tgt : Nat} (hd1 : decode cc pc = .ok (.lcmp, 1)) (hd2 : decode cc (pc + 1) = .ok (.ifCond .ge off, 3)) (ht : ((pc + 1 : Nat) : Int) + off = (tgt : Int))
    (kt : y ≤ x → W p l e R s m args below meth c H locs cells slots Q (F0 m tgt ls rest)) (kf : ¬ y ≤ x → W p l e R s m args below meth c H locs cells slots Q (F0 m (pc + 1 + 3) ls rest)) : W p l e R s m args below meth c H locs cells slots Q (F0 m pc ls (.long y :: .long x :: rest)) :=
  W.lcmp hexec hb hd1 (lv_if_ge hexec hb hd2 ht (fun h => kt ((lg_cmp_ge x y).mp h)) (fun h => kf (fun z => h ((lg_cmp_ge x y).mpr z))))
theorem zl_gt (hexec : p.tables.exec = Jvm.exec) (hb : c.code = cc) {x y : Int64} {off : Int} {tgt : Nat} (hd1 : decode cc pc = .ok (.lcmp, 1)) (hd2 : decode cc (pc + 1) = .ok (.ifCond .gt off, 3)) (ht : ((pc + 1 : Nat) : Int) + off = (tgt : Int))
    (kt : y < x → W p l e R s m args below meth c H locs cells slots Q (F0 m tgt ls rest)) (kf : ¬ y < x → W p l e R s m args below meth c H locs cells slots Q (F0 m (pc + 1 + 3) ls rest)) : W p l e R s m args below meth c H locs cells slots Q (F0 m pc ls (.long y :: .long x :: rest)) :=
  W.lcmp hexec hb hd1 (lv_if_gt hexec hb hd2 ht (fun h => kt ((lg_cmp_gt x y).mp h)) (fun h => kf (fun z => h ((lg_cmp_gt x y).mpr z))))
theorem zl_le (hexec : p.tables.exec = Jvm.exec) (hb : c.code = cc) {x y : Int64} {off : Int} {tgt : Nat} (hd1 : decode cc pc = .ok (.lcmp, 1)) (hd2 : decode cc (pc + 1) = .ok (.ifCond .le off, 3)) (ht : ((pc + 1 : Nat) : Int) + off = (tgt : Int))
    (kt : x ≤ y → W p l e R s m args below meth c H locs cells slots Q (F0 m tgt ls rest)) (kf : ¬ x ≤ y → W p l e R s m args below meth c H locs cells slots Q (F0 m (pc + 1 + 3) ls rest)) : W p l e R s m args below meth c H locs cells slots Q (F0 m pc ls (.long y :: .long x :: rest)) :=
  W.lcmp hexec hb hd1 (lv_if_le hexec hb hd2 ht (fun h => kt ((lg_cmp_le x y).mp h)) (fun h => kf (fun z => h ((lg_cmp_le x y).mpr z))))
/-- a call that changes nothing -/
theorem zcV (S : CallFix p m c cc nL s args Ts own) (hM : Met l y ws rm (zPc (.ref b :: As) D Zc tys) (zRd o) 0 0 (fun _ => False)) (cw : CallW R s args own C index y bytes maxL ret ws rm 0 0 n) (hK : va_K D vwCl tys s) (hP : va_P D vwCl Zc H) (hD : va_D A Zc) (hq : vwCl[ci]? = some q) (hqC : q.1 = C) (he : Zc[0]? = some (b, .inr (ci, fs)))
    (hn : As.length = n) (hsize : ls.size = nL) (hstack : st0 = As.reverse ++ .ref b :: rest) (hW : (rest.map fun v => v.category).sum ≤ 8) (hdg : decode cc pc = .ok (.invokevirtual index, 3)) (hf : cells + 0 ≤ R.cells ∧ slots + 0 ≤ R.slots)
    (kk : W p l e R s m args below meth c H locs cells slots Q (F0 m (pc + 3) ls (o.toList ++ rest))) : W p l e R s m args below meth c H locs cells slots Q (F0 m pc ls st0) := by
  have hr := W.runV (g := F0 m pc ls st0) (meth := meth) (e := e) (below := below) (locs := locs) (H := H) S hM cw ⟨zPc_blind, by rw [← hqC]; exact va_recv hK hP hq he, fun U hU hW => ⟨rfl, by rw [hU]; exact hP, va_K.moved hW.alike hK, hD.weaken (fun _ _ _ _ => trivial)⟩⟩ rfl hn hsize hstack (lv_room hW) hdg hf
  intro T hT X
  obtain ⟨v, st₀, t, T', L, h0, X', hL, e1, ⟨hv, hh⟩, st⟩ := hr T hT X
  cases hv
  obtain ⟨t2, a1, b1⟩ := kk T' (by rw [e1, hh, h0]) (Stand.forget X' (fun q h => (hL q h).elim))
  exact ⟨t2, st t2 a1, b1⟩
theorem zcS (S : CallFix p m c cc nL s args Ts own) (hM : Met l y ws rm (zPc As D Zc tys) (zRd o) 0 0 (fun _ => False)) (cw : CallB R s args own index y bytes maxL ret ws rm 0 0 n ∧ (Cond.static y).before args s = true) (hK : va_K D vwCl tys s) (hP : va_P D vwCl Zc H) (hD : va_D A Zc)
    (hn : As.length = n) (hsize : ls.size = nL) (hstack : st0 = As.reverse ++ rest) (hW : (rest.map fun v => v.category).sum ≤ 8) (hdg : decode cc pc = .ok (.invokestatic index, 3)) (hf : cells + 0 ≤ R.cells ∧ slots + 0 ≤ R.slots)
    (kk : W p l e R s m args below meth c H locs cells slots Q (F0 m (pc + 3) ls (o.toList ++ rest))) : W p l e R s m args below meth c H locs cells slots Q (F0 m pc ls st0) := by
  have hr := W.runS (g := F0 m pc ls st0) (meth := meth) (e := e) (below := below) (locs := locs) (H := H) S hM cw ⟨zPc_blind, fun U hU hW => ⟨rfl, by rw [hU]; exact hP, va_K.moved hW.alike hK, hD.weaken (fun _ _ _ _ => trivial)⟩⟩ rfl hn hsize hstack (lv_room hW) hdg hf
  intro T hT X
  obtain ⟨v, st₀, t, T', L, h0, X', hL, e1, ⟨hv, hh⟩, st⟩ := hr T hT X
  cases hv
  obtain ⟨t2, a1, b1⟩ := kk T' (by rw [e1, hh, h0]) (Stand.forget X' (fun q h => (hL q h).elim))
  exact ⟨t2, st t2 a1, b1⟩
theorem zcSX {t : Nat} {Z : va_W} (S : CallFix p m c cc nL s args Ts own) (hM : Met l y ws rm (zPx As D Zc tys t) (zRd o) 0 0 (fun _ => False)) (cw : CallB R s args own index y bytes maxL ret ws rm 0 0 n ∧ (Cond.static y).before args s = true) (hK : va_K D vwCl tys s) (hZ : va_Z "TorsionDesk" "PRIMES" "[I" (.ref t) A s s.heap) (hT : va_T .int t 24 (fun j => .int (zpr j)) A s s.heap) (hS : va_S A s.heap H locs) (hP : va_P D vwCl Zc H) (hD : va_D A Zc)
    (hn : As.length = n) (hsize : ls.size = nL) (hstack : st0 = As.reverse ++ rest) (hW : (rest.map fun v => v.category).sum ≤ 8) (hdg : decode cc pc = .ok (.invokestatic index, 3)) (hf : cells + 0 ≤ R.cells ∧ slots + 0 ≤ R.slots)
    (kk : W p l e R s m args below meth c H locs cells slots Q (F0 m (pc + 3) ls (o.toList ++ rest))) : W p l e R s m args below meth c H locs cells slots Q (F0 m pc ls st0) := by
  have hr := W.runS (g := F0 m pc ls st0) (meth := meth) (e := e) (below := below) (locs := locs) (H := H) S hM cw ⟨zPx_blind, fun U hU hW => ⟨⟨rfl, by rw [hU]; exact hP, va_K.moved hW.alike hK, hD.weaken (fun _ _ _ _ => trivial)⟩, zZX.of hZ hT hS hU hW.alike (fun q h => by obtain ⟨k, e9, h9⟩ := h; exact hD.2 k _ h9)⟩⟩ rfl hn hsize hstack (lv_room hW) hdg hf
  intro T hT X
  obtain ⟨v, st₀, t, T', L, h0, X', hL, e1, ⟨hv, hh⟩, st⟩ := hr T hT X
  cases hv
  obtain ⟨t2, a1, b1⟩ := kk T' (by rw [e1, hh, h0]) (Stand.forget X' (fun q h => (hL q h).elim))
  exact ⟨t2, st t2 a1, b1⟩
end ZK
/-- some cells of a world put in the place of others -/
def zrep : va_W → List Nat → va_W → va_W
  | Z, i :: is, x :: xs => zrep (Z.set i x) is xs
  | Z, _, _ => Z
theorem zrep_at : ∀ (is : List Nat) (Z Z1 : va_W), va_nd is = true → is.length = Z1.length → ∀ (k : Nat) (q : Nat × va_E), (zrep Z is Z1)[k]? = some q → (∃ j : Nat, is[j]? = some k ∧ Z1[j]? = some q) ∨ (k ∉ is ∧ Z[k]? = some q)
  | [], Z, Z1, _, _, k, q, h => by
    refine Or.inr ⟨by simp, ?_⟩
    cases Z1 <;> exact h
  | i :: is, Z, [], _, hl, k, q, h => by simp at hl
  | i :: is, Z, x :: xs, hn, hl, k, q, h => by
    simp only [va_nd, Bool.and_eq_true, decide_eq_true_eq] at hn
    have hl2 : is.length = xs.length := by simpa using hl
    rcases zrep_at is (Z.set i x) xs hn.2 hl2 k q h with ⟨j, h1, h2⟩ | ⟨h1, h2⟩
    · exact Or.inl ⟨j + 1, by simpa using h1, by simpa using h2⟩
    · by_cases hk : k = i
      · subst hk
        refine Or.inl ⟨0, by simp, ?_⟩
        by_cases hz : k < Z.length
        · rw [List.getElem?_set_self hz] at h2
          simpa using h2
        · rw [List.getElem?_eq_none (by rw [List.length_set]; omega)] at h2
          cases h2
      · rw [List.getElem?_set_ne (Ne.symm hk)] at h2
        exact Or.inr ⟨by simp [hk, h1], h2⟩
theorem zrep_D {A : Nat → Prop} {Z Zc Z1 : va_W} {is : List Nat} (hD : va_D A Z) (hn : va_nd is = true) (hC : is.map (fun i => Z[i]?) = Zc.map some) (ha : Z1.map (fun x => x.1) = Zc.map (fun x => x.1)) : (∀ (k : Nat) (q : Nat × va_E), (zrep Z is Z1)[k]? = some q → ∃ q0, Z[k]? = some q0 ∧ q0.1 = q.1) ∧ va_D A (zrep Z is Z1) := by
  have hl1 : is.length = Zc.length := by have := congrArg List.length hC; simpa using this
  have hl2 : Z1.length = Zc.length := by have := congrArg List.length ha; simpa using this
  have key : ∀ (k : Nat) (q : Nat × va_E), (zrep Z is Z1)[k]? = some q → ∃ q0, Z[k]? = some q0 ∧ q0.1 = q.1 := by
    intro k q h
    rcases zrep_at is Z Z1 hn (hl1.trans hl2.symm) k q h with ⟨j, h1, h2⟩ | ⟨h1, h2⟩
    · have h3 : (is.map (fun i => Z[i]?))[j]? = some (Z[k]?) := by rw [List.getElem?_map, h1]; rfl
      rw [hC, List.getElem?_map] at h3
      have h4 : (Z1.map (fun x => x.1))[j]? = some q.1 := by rw [List.getElem?_map, h2]; rfl
      rw [ha, List.getElem?_map] at h4
      cases hz : Zc[j]? with
      | none => rw [hz] at h4; cases h4
      | some z =>
        rw [hz] at h3 h4
        exact ⟨z, (Option.some.inj h3).symm, Option.some.inj h4⟩
    · exact ⟨q, h2, rfl⟩
  refine ⟨key, fun i j x y hi hj hxy => ?_, fun k q hk => ?_⟩
  · obtain ⟨x0, h1, h2⟩ := key i x hi
    obtain ⟨y0, h3, h4⟩ := key j y hj
    exact hD.1 i j x0 y0 h1 h3 (h2.trans (hxy.trans h4.symm))
  · obtain ⟨q0, h1, h2⟩ := key k q hk
    rw [← h2]
    exact hD.2 k q0 h1
theorem zrep_P {A : Nat → Prop} {D : va_G} {Z Zc Z1 : va_W} {H H1 : Heap} {is : List Nat} (hP : va_P D vwCl Z H) (hD : va_D A Z) (hn : va_nd is = true) (hC : is.map (fun i => Z[i]?) = Zc.map some) (ha : Z1.map (fun x => x.1) = Zc.map (fun x => x.1))
    (hk : ∀ q : Nat, q < H.size → ¬ zIn Zc q → H1[q]? = H[q]?) (hP1 : va_P D vwCl Z1 H1) : va_P D vwCl (zrep Z is Z1) H1 := by
  have hl1 : is.length = Zc.length := by have := congrArg List.length hC; simpa using this
  have hl2 : Z1.length = Zc.length := by have := congrArg List.length ha; simpa using this
  intro k q h
  rcases zrep_at is Z Z1 hn (hl1.trans hl2.symm) k q h with ⟨j, h1, h2⟩ | ⟨h1, h2⟩
  · exact hP1 j q h2
  · refine (hP k q h2).kept (hk q.1 (hP k q h2).lt ?_)
    rintro ⟨j, e, hj⟩
    have h3 : (is.map (fun i => Z[i]?))[j]? = some (some (q.1, e)) := by rw [hC, List.getElem?_map, hj]; rfl
    rw [List.getElem?_map] at h3
    cases hi : is[j]? with
    | none => rw [hi] at h3; cases h3
    | some i =>
      rw [hi] at h3
      have h4 := hD.1 k i q (q.1, e) h2 (Option.some.inj h3) rfl
      subst h4
      exact h1 (List.mem_of_getElem? hi)
theorem zin_sub {A : Nat → Prop} {Z Zc : va_W} {is : List Nat} (hD : va_D A Z) (hC : is.map (fun i => Z[i]?) = Zc.map some) : ∀ q, zIn Zc q → A q := by
  rintro q ⟨j, e, hj⟩
  have h3 : (is.map (fun i => Z[i]?))[j]? = some (some (q, e)) := by rw [hC, List.getElem?_map, hj]; rfl
  rw [List.getElem?_map] at h3
  cases hi : is[j]? with
  | none => rw [hi] at h3; cases h3
  | some i => rw [hi] at h3; exact hD.2 i (q, e) (Option.some.inj h3)
theorem zsub_D {A : Nat → Prop} {Z Zc : va_W} {is : List Nat} (hD : va_D A Z) (hn : va_nd is = true) (hC : is.map (fun i => Z[i]?) = Zc.map some) : va_D (fun _ => True) Zc := (hD.sub is hn hC).weaken (fun _ _ _ _ => trivial)
theorem zsub_P {D : va_G} {Z Zc : va_W} {H : Heap} {is : List Nat} (hP : va_P D vwCl Z H) (hC : is.map (fun i => Z[i]?) = Zc.map some) : va_P D vwCl Zc H := by
  intro j q hj
  have h3 : (is.map (fun i => Z[i]?))[j]? = some (some q) := by rw [hC, List.getElem?_map, hj]; rfl
  rw [List.getElem?_map] at h3
  cases hi : is[j]? with
  | none => rw [hi] at h3; cases h3
  | some i => rw [hi] at h3; exact hP i q (Option.some.inj h3)
section ZW
variable {p : Program} {l : Launch} {e : Env} {R : Room} {s : State} {m : MethodId} {args : Array Value} {below : List Frame} {meth : Method} {c : Code} {H : Heap} {locs : List Loc} {cells slots : Nat} {Q : State → Prop}
variable {cc bytes : ByteArray} {pc : Nat} {ls : Array Slot} {rest st0 As : List Value} {D : va_G} {A A0 : Nat → Prop} {H0 : Heap} {tys : List (ClassId × FieldType)} {ws Ts : List Cond} {rm : Room} {y : MethodName} {own C : String} {index nL maxL n ci : Nat} {ret : Option FieldType} {b : Nat} {o : Option Value} {Z Zc Z1 : va_W} {q : vw_C} {fs : List Value}
theorem zwEnd {a : Array Value} (hr : va_Run p l e R s m args below meth c H locs cells slots 0 0 (F0 m pc ls st0) rest (zWr o D (zIn Zc) Z1 a) (zIn Zc)) (hP : va_P D vwCl Z H) (hD : va_D A Z) (hS : va_S A H0 H locs) (is : List Nat) (hn : va_nd is = true) (hC : is.map (fun i => Z[i]?) = Zc.map some) (ha : Z1.map (fun x => x.1) = Zc.map (fun x => x.1))
    (kk : ∀ (H1 : Heap) (locs1 : List Loc), va_P D vwCl (zrep Z is Z1) H1 → va_D A (zrep Z is Z1) → va_S A H0 H1 locs1 → W p l e R s m args below meth c H1 locs1 cells slots Q (F0 m (pc + 3) ls (o.toList ++ rest))) : W p l e R s m args below meth c H locs cells slots Q (F0 m pc ls st0) := by
  intro T hT X
  obtain ⟨v, st₀, t, T', L, h0, X', hL, e1, e2, ⟨hv, hP1, hz, hk⟩, st⟩ := hr T hT X
  cases hv
  rw [h0] at hz hk
  have hsub := zin_sub hD hC
  obtain ⟨t2, a1, b1⟩ := kk T'.heap (locs ++ L) (zrep_P hP hD hn hC ha (fun q h1 h2 => by rw [e1]; exact hk q h1 h2) (by rw [e1]; exact hP1)) (zrep_D hD hn hC ha).2
    ⟨Nat.le_trans hS.1 (by rw [e1]; exact hz), fun q h1 h2 => by rw [e1, hk q (Nat.lt_of_lt_of_le h1 hS.1) (fun z => h2 (hsub q z))]; exact hS.2.1 q h1 h2, fun q hq => by
      rcases List.mem_append.mp hq with h | h
      · exact hS.2.2 q h
      · exact hsub _ (hL q h)⟩ T' rfl X'
  exact ⟨t2, st t2 a1, b1⟩
theorem zwV (S : CallFix p m c cc nL s args Ts own) (hM : Met l y ws rm (zPc (.ref b :: As) D Zc tys) (zWr o D (zIn Zc) Z1) 0 0 (zIn Zc)) (cw : CallW R s args own C index y bytes maxL ret ws rm 0 0 n) (hK : va_K D vwCl tys s) (hP : va_P D vwCl Z H) (hD : va_D A Z) (hS : va_S A H0 H locs) (is : List Nat) (hnd : va_nd is = true) (hC : is.map (fun i => Z[i]?) = Zc.map some) (ha : Z1.map (fun x => x.1) = Zc.map (fun x => x.1)) (hq : vwCl[ci]? = some q) (hqC : q.1 = C) (he : Zc[0]? = some (b, .inr (ci, fs)))
    (hn : As.length = n) (hsize : ls.size = nL) (hstack : st0 = As.reverse ++ .ref b :: rest) (hW : (rest.map fun v => v.category).sum ≤ 8) (hdg : decode cc pc = .ok (.invokevirtual index, 3)) (hf : cells + 0 ≤ R.cells ∧ slots + 0 ≤ R.slots)
    (kk : ∀ (H1 : Heap) (locs1 : List Loc), va_P D vwCl (zrep Z is Z1) H1 → va_D A (zrep Z is Z1) → va_S A H0 H1 locs1 → W p l e R s m args below meth c H1 locs1 cells slots Q (F0 m (pc + 3) ls (o.toList ++ rest))) : W p l e R s m args below meth c H locs cells slots Q (F0 m pc ls st0) := by
  have hPc := zsub_P hP hC
  exact zwEnd (va_runV (g := F0 m pc ls st0) S hM cw ⟨zPc_blind, by rw [← hqC]; exact va_recv hK hPc hq he, fun U hU hW => ⟨rfl, by rw [hU]; exact hPc, va_K.moved hW.alike hK, zsub_D hD hnd hC⟩⟩ rfl hn hsize hstack (lv_room hW) hdg hf) hP hD hS is hnd hC ha kk
theorem zwS (S : CallFix p m c cc nL s args Ts own) (hM : Met l y ws rm (zPc As D Zc tys) (zWr o D (zIn Zc) Z1) 0 0 (zIn Zc)) (cw : CallB R s args own index y bytes maxL ret ws rm 0 0 n ∧ (Cond.static y).before args s = true) (hK : va_K D vwCl tys s) (hP : va_P D vwCl Z H) (hD : va_D A Z) (hS : va_S A H0 H locs) (is : List Nat) (hnd : va_nd is = true) (hC : is.map (fun i => Z[i]?) = Zc.map some) (ha : Z1.map (fun x => x.1) = Zc.map (fun x => x.1))
    (hn : As.length = n) (hsize : ls.size = nL) (hstack : st0 = As.reverse ++ rest) (hW : (rest.map fun v => v.category).sum ≤ 8) (hdg : decode cc pc = .ok (.invokestatic index, 3)) (hf : cells + 0 ≤ R.cells ∧ slots + 0 ≤ R.slots)
    (kk : ∀ (H1 : Heap) (locs1 : List Loc), va_P D vwCl (zrep Z is Z1) H1 → va_D A (zrep Z is Z1) → va_S A H0 H1 locs1 → W p l e R s m args below meth c H1 locs1 cells slots Q (F0 m (pc + 3) ls (o.toList ++ rest))) : W p l e R s m args below meth c H locs cells slots Q (F0 m pc ls st0) := by
  have hPc := zsub_P hP hC
  exact zwEnd (va_runS (g := F0 m pc ls st0) S hM cw ⟨zPc_blind, fun U hU hW => ⟨rfl, by rw [hU]; exact hPc, va_K.moved hW.alike hK, zsub_D hD hnd hC⟩⟩ rfl hn hsize hstack (lv_room hW) hdg hf) hP hD hS is hnd hC ha kk
end ZW
