/-! for the law's own walk -/
theorem zgSW {own : String} {idx maxL : Nat} {y : MethodName} {c : ByteArray} {ret : Option FieldType} {hh : List (Nat × Nat × Nat × Nat)} (h1 : Cond.methodLink own idx y ∈ zB) (h2 : Cond.static y ∈ zB) (h4 : Cond.initialized y.cls ∈ zB) (h5 : Cond.codeWith y c maxL ret hh ∈ zB) : GoodIn zB (va_wsS own idx y (Cond.codeWith y c maxL ret hh :: zB)) := by
  refine zGo fun w hw => ?_
  simp only [va_wsS, List.cons_append, List.nil_append, List.mem_cons] at hw
  rcases hw with rfl | rfl | rfl | rfl | hw
  · exact h1
  · exact h2
  · exact h4
  · exact h5
  · exact hw
section ZL
variable {p : Program} {l : Launch} {e : Env} {R : Room} {s : State} {m : MethodId} {args : Array Value} {below : List Frame} {meth : Method} {c : Code} {H : Heap} {locs : List Loc} {cells slots mc ms : Nat} {Q : State → Prop}
variable {cc bytes : ByteArray} {pc : Nat} {ls : Array Slot} {rest st0 As : List Value} {D : va_G} {A A0 : Nat → Prop} {tys : List (ClassId × FieldType)} {ws Ts : List Cond} {rm : Room} {y : MethodName} {own C : String} {index nL maxL n ci : Nat} {ret : Option FieldType} {b : Nat} {o : Option Value} {Z Zc Z1 : va_W} {q : vw_C} {fs : List Value}
theorem zwEnd2 {a : Array Value} {H0 : Heap} (hr : va_Run p l e R s m args below meth c H locs cells slots mc ms (F0 m pc ls st0) rest (zWr o D (zIn Zc) Z1 a) (zIn Zc)) (hP : va_P D vwCl Z H) (hD : va_D A Z) (hS : va_S A H0 H locs) (is : List Nat) (hn : va_nd is = true) (hC : is.map (fun i => Z[i]?) = Zc.map some) (ha : Z1.map (fun x => x.1) = Zc.map (fun x => x.1))
    (kk : ∀ (H1 : Heap) (locs1 : List Loc), va_P D vwCl (zrep Z is Z1) H1 → va_D A (zrep Z is Z1) → va_S A H0 H1 locs1 → W p l e R s m args below meth c H1 locs1 (cells + mc) (slots + ms) Q (F0 m (pc + 3) ls (o.toList ++ rest))) : W p l e R s m args below meth c H locs cells slots Q (F0 m pc ls st0) := by
  intro T hT X
  obtain ⟨v, st₀, t, T', L, h0, X', hL, e1, e2, ⟨hv, hP1, hz, hk⟩, st⟩ := hr T hT X
  cases hv
  rw [h0] at hz hk
  have hsub := zin_sub hD hC
  obtain ⟨t2, a1, b1⟩ := kk T'.heap (locs ++ L) (zrep_P hP hD hn hC ha (fun q h1 h2 => by rw [e1]; exact hk q h1 h2) (by rw [e1]; exact hP1)) (zrep_D hD hn hC ha).2
    ⟨Nat.le_trans hS.1 (by rw [e1]; exact hz), fun q h1 h2 => by rw [e1, hk q (Nat.lt_of_lt_of_le h1 hS.1) (fun z => h2 (hsub q z))]; exact hS.2.1 q h1 h2, fun q hq => by
      rcases List.mem_append.mp hq with h | h
      · exact hS.2.2 q h
      · exact hsub _ (hL q h)⟩ T' rfl X'
  exact ⟨t2, st t2 a1, b1⟩
theorem zwSW {hh : List (Nat × Nat × Nat × Nat)} {X : State → Prop} {H0 : Heap} (S : CallFix p m c cc nL s args Ts own) (hM : Met l y ws rm (zPg As D Zc tys X) (zWr o D (zIn Zc) Z1) mc ms (zIn Zc)) (cw : vx_CSW R s args own index y bytes maxL ret hh ws rm mc ms n) (hK : va_K D vwCl tys s) (hXb : ∀ (U : State) (g : JFrame) (mk : MethodId) (a : Array Value), X U → X (U.calling g mk a)) (hXU : ∀ U : State, U.heap = H → s.WarmedH U.vm → X U) (hP : va_P D vwCl Z H) (hD : va_D A Z) (hS : va_S A H0 H locs) (is : List Nat) (hnd : va_nd is = true) (hC : is.map (fun i => Z[i]?) = Zc.map some) (ha : Z1.map (fun x => x.1) = Zc.map (fun x => x.1))
    (hn : As.length = n) (hsize : ls.size = nL) (hstack : st0 = As.reverse ++ rest) (hW : (rest.map fun v => v.category).sum ≤ 8) (hdg : decode cc pc = .ok (.invokestatic index, 3)) (hf : cells + mc ≤ R.cells ∧ slots + ms ≤ R.slots)
    (kk : ∀ (H1 : Heap) (locs1 : List Loc), va_P D vwCl (zrep Z is Z1) H1 → va_D A (zrep Z is Z1) → va_S A H0 H1 locs1 → W p l e R s m args below meth c H1 locs1 (cells + mc) (slots + ms) Q (F0 m (pc + 3) ls (o.toList ++ rest))) : W p l e R s m args below meth c H locs cells slots Q (F0 m pc ls st0) := by
  have hPc := zsub_P hP hC
  exact zwEnd2 (vx_runSW (g := F0 m pc ls st0) S hM cw ⟨zPg_blind hXb, fun U hU hW => ⟨⟨rfl, by rw [hU]; exact hPc, va_K.moved hW.alike hK, zsub_D hD hnd hC⟩, hXU U hU hW⟩⟩ rfl hn hsize hstack (lv_room hW) hdg hf) hP hD hS is hnd hC ha kk
theorem zwVX {t : Nat} (S : CallFix p m c cc nL s args Ts own) (hM : Met l y ws rm (zPx (.ref b :: As) D Zc tys t) (zWr o D (zIn Zc) Z1) 0 0 (zIn Zc)) (cw : CallW R s args own C index y bytes maxL ret ws rm 0 0 n) (hK : va_K D vwCl tys s) (hZ : va_Z "TorsionDesk" "PRIMES" "[I" (.ref t) A s s.heap) (hT : va_T .int t 24 (fun j => .int (zpr j)) A s s.heap) (hP : va_P D vwCl Z H) (hD : va_D A Z) (hS : va_S A s.heap H locs) (is : List Nat) (hnd : va_nd is = true) (hC : is.map (fun i => Z[i]?) = Zc.map some) (ha : Z1.map (fun x => x.1) = Zc.map (fun x => x.1)) (hq : vwCl[ci]? = some q) (hqC : q.1 = C) (he : Zc[0]? = some (b, .inr (ci, fs)))
    (hn : As.length = n) (hsize : ls.size = nL) (hstack : st0 = As.reverse ++ .ref b :: rest) (hW : (rest.map fun v => v.category).sum ≤ 8) (hdg : decode cc pc = .ok (.invokevirtual index, 3)) (hf : cells + 0 ≤ R.cells ∧ slots + 0 ≤ R.slots)
    (kk : ∀ (H1 : Heap) (locs1 : List Loc), va_P D vwCl (zrep Z is Z1) H1 → va_D A (zrep Z is Z1) → va_S A s.heap H1 locs1 → W p l e R s m args below meth c H1 locs1 cells slots Q (F0 m (pc + 3) ls (o.toList ++ rest))) : W p l e R s m args below meth c H locs cells slots Q (F0 m pc ls st0) := by
  have hPc := zsub_P hP hC
  exact zwEnd (va_runV (g := F0 m pc ls st0) S hM cw ⟨zPx_blind, by rw [← hqC]; exact va_recv hK hPc hq he, fun U hU hW => ⟨⟨rfl, by rw [hU]; exact hPc, va_K.moved hW.alike hK, zsub_D hD hnd hC⟩, zZX.of hZ hT hS hU hW.alike (zin_sub hD hC)⟩⟩ rfl hn hsize hstack (lv_room hW) hdg hf) hP hD hS is hnd hC ha kk
end ZL
theorem zt_le {L t : Nat} (hL : L ≤ 3072) (ht : t ≤ 512) (h : ¬ Int32.ofNat L - 6 < nI (6 * t)) : 6 * t + 6 ≤ L := by
  have h1 : (nI (6 * t)).toInt = (6 * t : Nat) := nI_toInt (by omega)
  have h2 : (Int32.ofNat L - 6).toInt = (L : Int) - 6 := by
    have h3 : (Int32.ofNat L).toInt = (L : Int) := nI_toInt (n := L) (by omega)
    rw [Int32.toInt_sub, h3, show (6 : Int32).toInt = 6 by decide]
    apply Int.bmod_eq_of_le <;> omega
  rw [Int32.lt_iff_toInt_lt, h1, h2] at h
  omega
theorem zt_next (t : Nat) : nI (6 * t) + 6 = nI (6 * (t + 1)) := by
  rw [show (6 : Int32) = nI 6 from rfl, nI_add, Nat.mul_succ]
