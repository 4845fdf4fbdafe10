abbrev rm_ma_floorMod_IIx : Room := { frames := 0, cells := 0, slots := 0, locals := 0 }
def a_ma_floorMod_IIx (i1 : Int32) (i2 : Int32) : Option (Int32) := (if i2 = 0 then none else (if 0 ≤ (i1 ^^^ i2) then (some (i1 - i1 / i2 * i2)) else (if (i1 - i1 / i2 * i2) = 0 then (some (i1 - i1 / i2 * i2)) else (some ((i1 - i1 / i2 * i2) + i2)))))
set_option maxHeartbeats 4000000 in
set_option maxRecDepth 100000 in
theorem w_a_ma_floorMod_IIx (l : Launch) (D : va_G) (cI cJ : ClassId) (i1 : Int32) (i2 : Int32) (r0 : Int32) (hm : a_ma_floorMod_IIx i1 i2 = some r0) : Met l y_ma_floorMod_IIx zs_ma_floorMod_IIx rm_ma_floorMod_IIx (zPc [.int i1, .int i2] D [] [(cI, .int), (cJ, .long)]) (zRd (some (.int r0))) 0 0 (fun _ => False) := by
  refine zmF (by decide +kernel) (Nat.le_of_ble_eq_true rfl) ?_
  intro p e s m args below meth c R Q hR hQ hargs hx hb hml hr hlocks hnm hB hown hP hK hD0 ls hl
  have hown : s.vm.findClass "java/lang/Math" = some m.cls := hown
  have hl : lv_has ls 3 [(0, .int i1), (1, .int i2)] := hl
  rw [a_ma_floorMod_IIx] at hm
  refine lv_iload_n (pc := 0) hx hb d_ma_floorMod_IIx_0 rfl (lv_at hl 0 rfl) ?_
  refine lv_iload_n (pc := 1) hx hb d_ma_floorMod_IIx_1 rfl (lv_at hl 1 rfl) ?_
  by_cases g1 : i2 = 0
  · rw [if_pos g1] at hm; cases hm
  rw [if_neg g1] at hm
  refine lv_irem (pc := 2) hx hb d_ma_floorMod_IIx_2 g1 ?_
  refine lv_istore_n (pc := 3) (lv' := [(2, .int (i1 - i1 / i2 * i2)), (0, .int i1), (1, .int i2)]) hx hb d_ma_floorMod_IIx_3 rfl hl (Nat.le_of_ble_eq_true rfl) rfl (fun ls hl => ?_)
  refine lv_iload_n (pc := 4) hx hb d_ma_floorMod_IIx_4 rfl (lv_at hl 1 rfl) ?_
  refine lv_iload_n (pc := 5) hx hb d_ma_floorMod_IIx_5 rfl (lv_at hl 2 rfl) ?_
  refine lv_ixor (pc := 6) hx hb d_ma_floorMod_IIx_6 ?_
  refine lv_if_ge (pc := 7) (tgt := 18) hx hb d_ma_floorMod_IIx_7 rfl (fun h2 => ?_) (fun h2 => ?_)
  · rw [if_pos h2] at hm
    refine lv_iload_n (pc := 18) hx hb d_ma_floorMod_IIx_18 rfl (lv_at hl 0 rfl) ?_
    cases hm
    rw [hQ]
    exact W.iret (pc := 19) hx hb hr (fun t ht _ => ⟨rfl, ht⟩) (fun _ h9 => nomatch h9) d_ma_floorMod_IIx_19
  rw [if_neg h2] at hm
  refine lv_iload_n (pc := 10) hx hb d_ma_floorMod_IIx_10 rfl (lv_at hl 0 rfl) ?_
  refine lv_if_eq (pc := 11) (tgt := 18) hx hb d_ma_floorMod_IIx_11 rfl (fun h3 => ?_) (fun h3 => ?_)
  · rw [if_pos h3] at hm
    refine lv_iload_n (pc := 18) hx hb d_ma_floorMod_IIx_18 rfl (lv_at hl 0 rfl) ?_
    cases hm
    rw [hQ]
    exact W.iret (pc := 19) hx hb hr (fun t ht _ => ⟨rfl, ht⟩) (fun _ h9 => nomatch h9) d_ma_floorMod_IIx_19
  rw [if_neg h3] at hm
  refine lv_iload_n (pc := 14) hx hb d_ma_floorMod_IIx_14 rfl (lv_at hl 0 rfl) ?_
  refine lv_iload_n (pc := 15) hx hb d_ma_floorMod_IIx_15 rfl (lv_at hl 2 rfl) ?_
  refine lv_iadd (pc := 16) hx hb d_ma_floorMod_IIx_16 ?_
  cases hm
  rw [hQ]
  exact W.iret (pc := 17) hx hb hr (fun t ht _ => ⟨rfl, ht⟩) (fun _ h9 => nomatch h9) d_ma_floorMod_IIx_17
abbrev rm_ma_floorMod_JJx : Room := { frames := 0, cells := 0, slots := 0, locals := 0 }
def a_ma_floorMod_JJx (j1 : Int64) (j2 : Int64) : Option (Int64) := (if j2 = 0 then none else (if (0 : Int64) ≤ (j1 ^^^ j2) then (some (j1 - j1 / j2 * j2)) else (if (j1 - j1 / j2 * j2) = (0 : Int64) then (some (j1 - j1 / j2 * j2)) else (some ((j1 - j1 / j2 * j2) + j2)))))
set_option maxHeartbeats 4000000 in
set_option maxRecDepth 100000 in
theorem w_a_ma_floorMod_JJx (l : Launch) (D : va_G) (cI cJ : ClassId) (j1 : Int64) (j2 : Int64) (r0 : Int64) (hm : a_ma_floorMod_JJx j1 j2 = some r0) : Met l y_ma_floorMod_JJx zs_ma_floorMod_JJx rm_ma_floorMod_JJx (zPc [.long j1, .long j2] D [] [(cI, .int), (cJ, .long)]) (zRd (some (.long r0))) 0 0 (fun _ => False) := by
  refine zmF (by decide +kernel) (Nat.le_of_ble_eq_true rfl) ?_
  intro p e s m args below meth c R Q hR hQ hargs hx hb hml hr hlocks hnm hB hown hP hK hD0 ls hl
  have hown : s.vm.findClass "java/lang/Math" = some m.cls := hown
  have hl : lv_has ls 6 [(0, .long j1), (2, .long j2)] := hl
  rw [a_ma_floorMod_JJx] at hm
  refine lv_lload_n (pc := 0) hx hb d_ma_floorMod_JJx_0 rfl (lv_at hl 0 rfl) ?_
  refine lv_lload_n (pc := 1) hx hb d_ma_floorMod_JJx_1 rfl (lv_at hl 1 rfl) ?_
  by_cases g1 : j2 = 0
  · rw [if_pos g1] at hm; cases hm
  rw [if_neg g1] at hm
  refine lv_lrem (pc := 2) hx hb d_ma_floorMod_JJx_2 g1 ?_
  refine lv_lstore (pc := 3) (lv' := [(4, .long (j1 - j1 / j2 * j2)), (0, .long j1), (2, .long j2)]) hx hb d_ma_floorMod_JJx_3 hl (Nat.le_of_ble_eq_true rfl) rfl (fun ls hl => ?_)
  refine lv_lload_n (pc := 5) hx hb d_ma_floorMod_JJx_5 rfl (lv_at hl 1 rfl) ?_
  refine lv_lload_n (pc := 6) hx hb d_ma_floorMod_JJx_6 rfl (lv_at hl 2 rfl) ?_
  refine lv_lxor (pc := 7) hx hb d_ma_floorMod_JJx_7 ?_
  refine lv_lconst (pc := 8) (v := (0 : Int64)) hx hb d_ma_floorMod_JJx_8 (by decide) ?_
  refine zl_ge (pc := 9) (tgt := 25) hx hb d_ma_floorMod_JJx_9 d_ma_floorMod_JJx_10 rfl (fun h2 => ?_) (fun h2 => ?_)
  · rw [if_pos h2] at hm
    refine lv_lload (pc := 25) hx hb d_ma_floorMod_JJx_25 (lv_at hl 0 rfl) ?_
    cases hm
    rw [hQ]
    exact W.lret (pc := 27) hx hb hr (fun t ht _ => ⟨rfl, ht⟩) (fun _ h9 => nomatch h9) d_ma_floorMod_JJx_27
  rw [if_neg h2] at hm
  refine lv_lload (pc := 13) hx hb d_ma_floorMod_JJx_13 (lv_at hl 0 rfl) ?_
  refine lv_lconst (pc := 15) (v := (0 : Int64)) hx hb d_ma_floorMod_JJx_15 (by decide) ?_
  refine zl_eq (pc := 16) (tgt := 25) hx hb d_ma_floorMod_JJx_16 d_ma_floorMod_JJx_17 rfl (fun h3 => ?_) (fun h3 => ?_)
  · rw [if_pos h3] at hm
    refine lv_lload (pc := 25) hx hb d_ma_floorMod_JJx_25 (lv_at hl 0 rfl) ?_
    cases hm
    rw [hQ]
    exact W.lret (pc := 27) hx hb hr (fun t ht _ => ⟨rfl, ht⟩) (fun _ h9 => nomatch h9) d_ma_floorMod_JJx_27
  rw [if_neg h3] at hm
  refine lv_lload (pc := 20) hx hb d_ma_floorMod_JJx_20 (lv_at hl 0 rfl) ?_
  refine lv_lload_n (pc := 22) hx hb d_ma_floorMod_JJx_22 rfl (lv_at hl 2 rfl) ?_
  refine lv_ladd (pc := 23) hx hb d_ma_floorMod_JJx_23 ?_
  cases hm
  rw [hQ]
  exact W.lret (pc := 24) hx hb hr (fun t ht _ => ⟨rfl, ht⟩) (fun _ h9 => nomatch h9) d_ma_floorMod_JJx_24
abbrev rm_ma_abs : Room := { frames := 0, cells := 0, slots := 0, locals := 0 }
def a_ma_abs (j1 : Int64) : Int64 := (if (0 : Int64) ≤ j1 then j1 else -j1)
set_option maxHeartbeats 4000000 in
set_option maxRecDepth 100000 in
theorem w_a_ma_abs (l : Launch) (D : va_G) (cI cJ : ClassId) (j1 : Int64) (r0 : Int64) (hm : a_ma_abs j1 = r0) : Met l y_ma_abs zs_ma_abs rm_ma_abs (zPc [.long j1] D [] [(cI, .int), (cJ, .long)]) (zRd (some (.long r0))) 0 0 (fun _ => False) := by
  refine zmF (by decide +kernel) (Nat.le_of_ble_eq_true rfl) ?_
  intro p e s m args below meth c R Q hR hQ hargs hx hb hml hr hlocks hnm hB hown hP hK hD0 ls hl
  have hown : s.vm.findClass "java/lang/Math" = some m.cls := hown
  have hl : lv_has ls 2 [(0, .long j1)] := hl
  rw [a_ma_abs] at hm
  refine lv_lload_n (pc := 0) hx hb d_ma_abs_0 rfl (lv_at hl 0 rfl) ?_
  refine lv_lconst (pc := 1) (v := (0 : Int64)) hx hb d_ma_abs_1 (by decide) ?_
  refine zl_ge (pc := 2) (tgt := 11) hx hb d_ma_abs_2 d_ma_abs_3 rfl (fun h1 => ?_) (fun h1 => ?_)
  · rw [if_pos h1] at hm
    refine lv_lload_n (pc := 11) hx hb d_ma_abs_11 rfl (lv_at hl 0 rfl) ?_
    subst hm
    rw [hQ]
    exact W.lret (pc := 12) hx hb hr (fun t ht _ => ⟨rfl, ht⟩) (fun _ h9 => nomatch h9) d_ma_abs_12
  rw [if_neg h1] at hm
  refine lv_lload_n (pc := 6) hx hb d_ma_abs_6 rfl (lv_at hl 0 rfl) ?_
  refine lv_lneg (pc := 7) hx hb d_ma_abs_7 ?_
  refine lv_goto (pc := 8) (tgt := 12) hx hb d_ma_abs_8 rfl ?_
  subst hm
  rw [hQ]
  exact W.lret (pc := 12) hx hb hr (fun t ht _ => ⟨rfl, ht⟩) (fun _ h9 => nomatch h9) d_ma_abs_12
abbrev rm_ma_max : Room := { frames := 0, cells := 0, slots := 0, locals := 0 }
def a_ma_max (i1 : Int32) (i2 : Int32) : Int32 := (if i1 < i2 then i2 else i1)
set_option maxHeartbeats 4000000 in
set_option maxRecDepth 100000 in
theorem w_a_ma_max (l : Launch) (D : va_G) (cI cJ : ClassId) (i1 : Int32) (i2 : Int32) (r0 : Int32) (hm : a_ma_max i1 i2 = r0) : Met l y_ma_max zs_ma_max rm_ma_max (zPc [.int i1, .int i2] D [] [(cI, .int), (cJ, .long)]) (zRd (some (.int r0))) 0 0 (fun _ => False) := by
  refine zmF (by decide +kernel) (Nat.le_of_ble_eq_true rfl) ?_
  intro p e s m args below meth c R Q hR hQ hargs hx hb hml hr hlocks hnm hB hown hP hK hD0 ls hl
  have hown : s.vm.findClass "java/lang/Math" = some m.cls := hown
  have hl : lv_has ls 2 [(0, .int i1), (1, .int i2)] := hl
  rw [a_ma_max] at hm
  refine lv_iload_n (pc := 0) hx hb d_ma_max_0 rfl (lv_at hl 0 rfl) ?_
  refine lv_iload_n (pc := 1) hx hb d_ma_max_1 rfl (lv_at hl 1 rfl) ?_
  refine lv_icmp_lt (pc := 2) (tgt := 9) hx hb d_ma_max_2 rfl (fun h1 => ?_) (fun h1 => ?_)
  · rw [if_pos h1] at hm
    refine lv_iload_n (pc := 9) hx hb d_ma_max_9 rfl (lv_at hl 1 rfl) ?_
    subst hm
    rw [hQ]
    exact W.iret (pc := 10) hx hb hr (fun t ht _ => ⟨rfl, ht⟩) (fun _ h9 => nomatch h9) d_ma_max_10
  rw [if_neg h1] at hm
  refine lv_iload_n (pc := 5) hx hb d_ma_max_5 rfl (lv_at hl 0 rfl) ?_
  refine lv_goto (pc := 6) (tgt := 10) hx hb d_ma_max_6 rfl ?_
  subst hm
  rw [hQ]
  exact W.iret (pc := 10) hx hb hr (fun t ht _ => ⟨rfl, ht⟩) (fun _ h9 => nomatch h9) d_ma_max_10
abbrev rm_ar_fill : Room := { frames := 0, cells := 0, slots := 0, locals := 0 }
def a_ar_fill_L5 (i2 : Int32) : Nat → (Nat → Int32) → Int32 → Option ((Nat → Int32))
  | 0, _, _ => none
  | n + 1, a0_5, x2_5 => (if (97 : Int32) ≤ x2_5 then (some a0_5) else (if (x2_5 < 0 ∨ 97 ≤ x2_5.toNatClampNeg) then none else a_ar_fill_L5 i2 n (upd a0_5 x2_5.toNatClampNeg i2) (x2_5 + (1 : Int32))))
def a_ar_fill (N : Nat) (av : Nat → Int32) (i2 : Int32) : Option ((Nat → Int32)) := a_ar_fill_L5 i2 N av (0 : Int32)
set_option maxHeartbeats 4000000 in
set_option maxRecDepth 100000 in
theorem w_a_ar_fill (l : Launch) (D : va_G) (cI cJ : ClassId) (qv1 : Nat) (av : Nat → Int32) (i2 : Int32) (N : Nat) (r0 : Nat → Int32) (hm : a_ar_fill N av i2 = some r0) : Met l y_ar_fill zs_ar_fill rm_ar_fill (zPc [.ref qv1, .int i2] D [(qv1, .inl (cI, 97, .inl av))] [(cI, .int), (cJ, .long)]) (zWr none D (zIn [(qv1, .inl (cI, 97, .inl av))]) [(qv1, .inl (cI, 97, .inl r0))]) 0 0 (zIn [(qv1, .inl (cI, 97, .inl av))]) := by
  refine zmF (by decide +kernel) (Nat.le_of_ble_eq_true rfl) ?_
  intro p e s m args below meth c R Q hR hQ hargs hx hb hml hr hlocks hnm hB hown hP hK hD0 ls hl
  have hown : s.vm.findClass "java/util/Arrays" = some m.cls := hown
  have hl : lv_has ls 4 [(0, .ref qv1), (1, .int i2)] := hl
  obtain ⟨A, hA⟩ : ∃ A, A = zIn [(qv1, .inl (cI, 97, .inl av))] := ⟨_, rfl⟩
  have hD : va_D A [(qv1, .inl (cI, 97, .inl av))] := by rw [hA]; exact zIn_self hD0
  have hS : va_S A s.heap s.heap [] := va_S.rf
  rw [← hA] at hQ
  have k5 : ∀ (n : Nat) (a0_5 : Nat → Int32) (x2_5 : Int32) (H : Heap) (locs : List Loc) (ls : Array Slot), lv_has ls 4 [(0, .ref qv1), (1, .int i2), (2, .int x2_5), (3, .int (97 : Int32))] → va_P D vwCl [(qv1, .inl (cI, 97, .inl a0_5))] H → va_D A [(qv1, .inl (cI, 97, .inl a0_5))] → va_S A s.heap H locs → a_ar_fill_L5 i2 n a0_5 x2_5 = some r0 → W p l e R s m args below meth c H locs 0 0 Q (F0 m 5 ls []) := by
    intro n
    induction n with
    | zero => intro a0_5 x2_5  H locs ls hl hP hD hS hm; rw [a_ar_fill_L5] at hm; cases hm
    | succ n ih =>
      intro a0_5 x2_5  H locs ls hl hP hD hS hm
      rw [a_ar_fill_L5] at hm
      refine lv_iload_n (pc := 5) hx hb d_ar_fill_5 rfl (lv_at hl 2 rfl) ?_
      refine lv_iload_n (pc := 6) hx hb d_ar_fill_6 rfl (lv_at hl 3 rfl) ?_
      refine lv_icmp_ge (pc := 7) (tgt := 20) hx hb d_ar_fill_7 rfl (fun h1 => ?_) (fun h1 => ?_)
      · rw [if_pos h1] at hm
        cases hm
        rw [hQ]
        exact W.vret (pc := 20) hx hb hr (fun t ht _ => ⟨rfl, by rw [ht]; exact hP, hS.F ht⟩) hS.2.2 d_ar_fill_20
      rw [if_neg h1] at hm
      refine lv_aload_n (pc := 10) hx hb d_ar_fill_10 rfl (lv_at hl 0 rfl) ?_
      refine lv_iload_n (pc := 11) hx hb d_ar_fill_11 rfl (lv_at hl 2 rfl) ?_
      refine lv_iload_n (pc := 12) hx hb d_ar_fill_12 rfl (lv_at hl 1 rfl) ?_
      by_cases g2 : (x2_5 < 0 ∨ 97 ≤ x2_5.toNatClampNeg)
      · rw [if_pos g2] at hm; cases hm
      rw [if_neg g2] at hm
      refine va_iast (pc := 13) hx hb hK hP hD hS 0 0 rfl rfl g2 d_ar_fill_13 (fun H locs hP hD hS => ?_)
      have hP : va_P D vwCl [(qv1, .inl (cI, 97, .inl (upd a0_5 x2_5.toNatClampNeg i2)))] H := hP
      have hD : va_D A [(qv1, .inl (cI, 97, .inl (upd a0_5 x2_5.toNatClampNeg i2)))] := hD
      refine lv_iinc (pc := 14) (k := 2) (v := x2_5 + (1 : Int32)) (lv' := [(2, .int (x2_5 + (1 : Int32))), (0, .ref qv1), (1, .int i2), (3, .int (97 : Int32))]) hx hb d_ar_fill_14 hl rfl (congrArg (x2_5 + ·) (by decide)) (Nat.le_of_ble_eq_true rfl) rfl (fun ls hl => ?_)
      refine lv_goto (pc := 17) (tgt := 5) hx hb d_ar_fill_17 rfl ?_
      exact ih (upd a0_5 x2_5.toNatClampNeg i2) (x2_5 + (1 : Int32)) H locs ls (lv_sub hl [1, 2, 0, 3] rfl) hP hD hS hm
  have main : ∀ (H : Heap) (locs : List Loc), va_P D vwCl [(qv1, .inl (cI, 97, .inl av))] H → va_D A [(qv1, .inl (cI, 97, .inl av))] → va_S A s.heap H locs → W p l e R s m args below meth c H locs 0 0 Q (F0 m 0 ls []) := by
    intro H locs hP hD hS
    rw [a_ar_fill] at hm
    refine lv_iconst (pc := 0) (v := (0 : Int32)) hx hb d_ar_fill_0 (by decide) ?_
    refine lv_istore_n (pc := 1) (lv' := [(2, .int (0 : Int32)), (0, .ref qv1), (1, .int i2)]) hx hb d_ar_fill_1 rfl hl (Nat.le_of_ble_eq_true rfl) rfl (fun ls hl => ?_)
    refine lv_aload_n (pc := 2) hx hb d_ar_fill_2 rfl (lv_at hl 1 rfl) ?_
    refine va_alen (pc := 3) hx hb hK hP 0 0 rfl rfl (v := (97 : Int32)) rfl d_ar_fill_3 ?_
    refine lv_istore_n (pc := 4) (lv' := [(3, .int (97 : Int32)), (2, .int (0 : Int32)), (0, .ref qv1), (1, .int i2)]) hx hb d_ar_fill_4 rfl hl (Nat.le_of_ble_eq_true rfl) rfl (fun ls hl => ?_)
    exact k5 N av (0 : Int32) H locs ls (lv_sub hl [2, 3, 1, 0] rfl) hP hD hS hm
  exact main s.heap [] hP hD hS
