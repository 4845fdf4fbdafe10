abbrev rm_cu_discriminantOf : Room := { frames := 0, cells := 0, slots := 0, locals := 0 }
def a_cu_discriminantOf (j1 : Int64) (j2 : Int64) (j3 : Int64) : Int64 := ((((((j1 * j1) * j2) * j2) - ((((4 : Int64) * j2) * j2) * j2)) - (((((4 : Int64) * j1) * j1) * j1) * j3)) - (((27 : Int64) * j3) * j3)) + ((((18 : Int64) * j1) * j2) * j3)
set_option maxHeartbeats 4000000 in
set_option maxRecDepth 100000 in
theorem w_a_cu_discriminantOf (l : Launch) (D : va_G) (cI cJ : ClassId) (j1 : Int64) (j2 : Int64) (j3 : Int64) (r0 : Int64) (hm : a_cu_discriminantOf j1 j2 j3 = r0) : Met l y_cu_discriminantOf zs_cu_discriminantOf rm_cu_discriminantOf (zPc [.long j1, .long j2, .long j3] D [] [(cI, .int), (cJ, .long)]) (zRd (some (.long r0))) 0 0 (fun _ => False) := by
  refine zm (by decide) (Nat.le_of_ble_eq_true rfl) ?_
  intro p e s m args below meth c R Q hR hQ hargs hx hb hml hr hlocks hnm hB hown hP hK hD0 ls hl
  have hown : s.vm.findClass "TorsionDesk$Cubic" = some m.cls := hown
  have hl : lv_has ls 6 [(0, .long j1), (2, .long j2), (4, .long j3)] := hl
  rw [a_cu_discriminantOf] at hm
  refine lv_lload_n (pc := 0) hx hb d_cu_discriminantOf_0 rfl (lv_at hl 0 rfl) ?_
  refine lv_lload_n (pc := 1) hx hb d_cu_discriminantOf_1 rfl (lv_at hl 0 rfl) ?_
  refine lv_lmul (pc := 2) hx hb d_cu_discriminantOf_2 ?_
  refine lv_lload_n (pc := 3) hx hb d_cu_discriminantOf_3 rfl (lv_at hl 1 rfl) ?_
  refine lv_lmul (pc := 4) hx hb d_cu_discriminantOf_4 ?_
  refine lv_lload_n (pc := 5) hx hb d_cu_discriminantOf_5 rfl (lv_at hl 1 rfl) ?_
  refine lv_lmul (pc := 6) hx hb d_cu_discriminantOf_6 ?_
  refine lv_ldc2 (pc := 7) (v := (4 : Int64)) hx hb hown (hB _ zw_313) d_cu_discriminantOf_7 ?_
  refine lv_lload_n (pc := 10) hx hb d_cu_discriminantOf_10 rfl (lv_at hl 1 rfl) ?_
  refine lv_lmul (pc := 11) hx hb d_cu_discriminantOf_11 ?_
  refine lv_lload_n (pc := 12) hx hb d_cu_discriminantOf_12 rfl (lv_at hl 1 rfl) ?_
  refine lv_lmul (pc := 13) hx hb d_cu_discriminantOf_13 ?_
  refine lv_lload_n (pc := 14) hx hb d_cu_discriminantOf_14 rfl (lv_at hl 1 rfl) ?_
  refine lv_lmul (pc := 15) hx hb d_cu_discriminantOf_15 ?_
  refine lv_lsub (pc := 16) hx hb d_cu_discriminantOf_16 ?_
  refine lv_ldc2 (pc := 17) (v := (4 : Int64)) hx hb hown (hB _ zw_313) d_cu_discriminantOf_17 ?_
  refine lv_lload_n (pc := 20) hx hb d_cu_discriminantOf_20 rfl (lv_at hl 0 rfl) ?_
  refine lv_lmul (pc := 21) hx hb d_cu_discriminantOf_21 ?_
  refine lv_lload_n (pc := 22) hx hb d_cu_discriminantOf_22 rfl (lv_at hl 0 rfl) ?_
  refine lv_lmul (pc := 23) hx hb d_cu_discriminantOf_23 ?_
  refine lv_lload_n (pc := 24) hx hb d_cu_discriminantOf_24 rfl (lv_at hl 0 rfl) ?_
  refine lv_lmul (pc := 25) hx hb d_cu_discriminantOf_25 ?_
  refine lv_lload (pc := 26) hx hb d_cu_discriminantOf_26 (lv_at hl 2 rfl) ?_
  refine lv_lmul (pc := 28) hx hb d_cu_discriminantOf_28 ?_
  refine lv_lsub (pc := 29) hx hb d_cu_discriminantOf_29 ?_
  refine lv_ldc2 (pc := 30) (v := (27 : Int64)) hx hb hown (hB _ zw_314) d_cu_discriminantOf_30 ?_
  refine lv_lload (pc := 33) hx hb d_cu_discriminantOf_33 (lv_at hl 2 rfl) ?_
  refine lv_lmul (pc := 35) hx hb d_cu_discriminantOf_35 ?_
  refine lv_lload (pc := 36) hx hb d_cu_discriminantOf_36 (lv_at hl 2 rfl) ?_
  refine lv_lmul (pc := 38) hx hb d_cu_discriminantOf_38 ?_
  refine lv_lsub (pc := 39) hx hb d_cu_discriminantOf_39 ?_
  refine lv_ldc2 (pc := 40) (v := (18 : Int64)) hx hb hown (hB _ zw_315) d_cu_discriminantOf_40 ?_
  refine lv_lload_n (pc := 43) hx hb d_cu_discriminantOf_43 rfl (lv_at hl 0 rfl) ?_
  refine lv_lmul (pc := 44) hx hb d_cu_discriminantOf_44 ?_
  refine lv_lload_n (pc := 45) hx hb d_cu_discriminantOf_45 rfl (lv_at hl 1 rfl) ?_
  refine lv_lmul (pc := 46) hx hb d_cu_discriminantOf_46 ?_
  refine lv_lload (pc := 47) hx hb d_cu_discriminantOf_47 (lv_at hl 2 rfl) ?_
  refine lv_lmul (pc := 49) hx hb d_cu_discriminantOf_49 ?_
  refine lv_ladd (pc := 50) hx hb d_cu_discriminantOf_50 ?_
  subst hm
  rw [hQ]
  exact W.lret (pc := 51) hx hb hr (fun t ht _ => ⟨rfl, ht⟩) (fun _ h9 => nomatch h9) d_cu_discriminantOf_51
abbrev rm_cu_valueAt : Room := { frames := 0, cells := 0, slots := 0, locals := 0 }
def a_cu_valueAt (sq : Int64) (li : Int64) (co : Int64) (j1 : Int64) : Int64 := ((((j1 + sq) * j1) + li) * j1) + co
set_option maxHeartbeats 4000000 in
set_option maxRecDepth 100000 in
theorem w_a_cu_valueAt (l : Launch) (D : va_G) (cI cJ : ClassId) (qu : Nat) (qr : Nat) (sq : Int64) (li : Int64) (co : Int64) (di : Int64) (rc : Nat → Int32) (j1 : Int64) (r0 : Int64) (hm : a_cu_valueAt sq li co j1 = r0) : Met l y_cu_valueAt zs_cu_valueAt rm_cu_valueAt (zPc [.ref qu, .long j1] D [(qu, .inr (0, [.long sq, .long li, .long co, .long di, .ref qr])), (qr, .inl (cI, 97, .inl rc))] [(cI, .int), (cJ, .long)]) (zRd (some (.long r0))) 0 0 (fun _ => False) := by
  refine zm (by decide) (Nat.le_of_ble_eq_true rfl) ?_
  intro p e s m args below meth c R Q hR hQ hargs hx hb hml hr hlocks hnm hB hown hP hK hD0 ls hl
  have hown : s.vm.findClass "TorsionDesk$Cubic" = some m.cls := hown
  have hl : lv_has ls 3 [(0, .ref qu), (1, .long j1)] := hl
  rw [a_cu_valueAt] at hm
  refine lv_lload_n (pc := 0) hx hb d_cu_valueAt_0 rfl (lv_at hl 1 rfl) ?_
  refine lv_aload_n (pc := 1) hx hb d_cu_valueAt_1 rfl (lv_at hl 0 rfl) ?_
  refine va_get (pc := 2) (D := D) (ci := 0) (v := .long sq) (C := "TorsionDesk$Cubic") (T := tX0) (N := 5) hx hb hB lX0 hown hK hP 0 rfl rfl 0 (by decide) (hB _ zw_28) (fun _ h9 => h9) rfl d_cu_valueAt_2 ?_
  refine lv_ladd (pc := 5) hx hb d_cu_valueAt_5 ?_
  refine lv_lload_n (pc := 6) hx hb d_cu_valueAt_6 rfl (lv_at hl 1 rfl) ?_
  refine lv_lmul (pc := 7) hx hb d_cu_valueAt_7 ?_
  refine lv_aload_n (pc := 8) hx hb d_cu_valueAt_8 rfl (lv_at hl 0 rfl) ?_
  refine va_get (pc := 9) (D := D) (ci := 0) (v := .long li) (C := "TorsionDesk$Cubic") (T := tX0) (N := 5) hx hb hB lX0 hown hK hP 0 rfl rfl 1 (by decide) (hB _ zw_30) (fun _ h9 => h9) rfl d_cu_valueAt_9 ?_
  refine lv_ladd (pc := 12) hx hb d_cu_valueAt_12 ?_
  refine lv_lload_n (pc := 13) hx hb d_cu_valueAt_13 rfl (lv_at hl 1 rfl) ?_
  refine lv_lmul (pc := 14) hx hb d_cu_valueAt_14 ?_
  refine lv_aload_n (pc := 15) hx hb d_cu_valueAt_15 rfl (lv_at hl 0 rfl) ?_
  refine va_get (pc := 16) (D := D) (ci := 0) (v := .long co) (C := "TorsionDesk$Cubic") (T := tX0) (N := 5) hx hb hB lX0 hown hK hP 0 rfl rfl 2 (by decide) (hB _ zw_31) (fun _ h9 => h9) rfl d_cu_valueAt_16 ?_
  refine lv_ladd (pc := 19) hx hb d_cu_valueAt_19 ?_
  subst hm
  rw [hQ]
  exact W.lret (pc := 20) hx hb hr (fun t ht _ => ⟨rfl, ht⟩) (fun _ h9 => nomatch h9) d_cu_valueAt_20
abbrev rm_cu_steepnessAt : Room := { frames := 0, cells := 0, slots := 0, locals := 0 }
def a_cu_steepnessAt (sq : Int64) (li : Int64) (j1 : Int64) : Int64 := ((((3 : Int64) * j1) + ((2 : Int64) * sq)) * j1) + li
set_option maxHeartbeats 4000000 in
set_option maxRecDepth 100000 in
theorem w_a_cu_steepnessAt (l : Launch) (D : va_G) (cI cJ : ClassId) (qu : Nat) (qr : Nat) (sq : Int64) (li : Int64) (co : Int64) (di : Int64) (rc : Nat → Int32) (j1 : Int64) (r0 : Int64) (hm : a_cu_steepnessAt sq li j1 = r0) : Met l y_cu_steepnessAt zs_cu_steepnessAt rm_cu_steepnessAt (zPc [.ref qu, .long j1] D [(qu, .inr (0, [.long sq, .long li, .long co, .long di, .ref qr])), (qr, .inl (cI, 97, .inl rc))] [(cI, .int), (cJ, .long)]) (zRd (some (.long r0))) 0 0 (fun _ => False) := by
  refine zm (by decide) (Nat.le_of_ble_eq_true rfl) ?_
  intro p e s m args below meth c R Q hR hQ hargs hx hb hml hr hlocks hnm hB hown hP hK hD0 ls hl
  have hown : s.vm.findClass "TorsionDesk$Cubic" = some m.cls := hown
  have hl : lv_has ls 3 [(0, .ref qu), (1, .long j1)] := hl
  rw [a_cu_steepnessAt] at hm
  refine lv_ldc2 (pc := 0) (v := (3 : Int64)) hx hb hown (hB _ zw_152) d_cu_steepnessAt_0 ?_
  refine lv_lload_n (pc := 3) hx hb d_cu_steepnessAt_3 rfl (lv_at hl 1 rfl) ?_
  refine lv_lmul (pc := 4) hx hb d_cu_steepnessAt_4 ?_
  refine lv_ldc2 (pc := 5) (v := (2 : Int64)) hx hb hown (hB _ zw_153) d_cu_steepnessAt_5 ?_
  refine lv_aload_n (pc := 8) hx hb d_cu_steepnessAt_8 rfl (lv_at hl 0 rfl) ?_
  refine va_get (pc := 9) (D := D) (ci := 0) (v := .long sq) (C := "TorsionDesk$Cubic") (T := tX0) (N := 5) hx hb hB lX0 hown hK hP 0 rfl rfl 0 (by decide) (hB _ zw_28) (fun _ h9 => h9) rfl d_cu_steepnessAt_9 ?_
  refine lv_lmul (pc := 12) hx hb d_cu_steepnessAt_12 ?_
  refine lv_ladd (pc := 13) hx hb d_cu_steepnessAt_13 ?_
  refine lv_lload_n (pc := 14) hx hb d_cu_steepnessAt_14 rfl (lv_at hl 1 rfl) ?_
  refine lv_lmul (pc := 15) hx hb d_cu_steepnessAt_15 ?_
  refine lv_aload_n (pc := 16) hx hb d_cu_steepnessAt_16 rfl (lv_at hl 0 rfl) ?_
  refine va_get (pc := 17) (D := D) (ci := 0) (v := .long li) (C := "TorsionDesk$Cubic") (T := tX0) (N := 5) hx hb hB lX0 hown hK hP 0 rfl rfl 1 (by decide) (hB _ zw_30) (fun _ h9 => h9) rfl d_cu_steepnessAt_17 ?_
  refine lv_ladd (pc := 20) hx hb d_cu_steepnessAt_20 ?_
  subst hm
  rw [hQ]
  exact W.lret (pc := 21) hx hb hr (fun t ht _ => ⟨rfl, ht⟩) (fun _ h9 => nomatch h9) d_cu_steepnessAt_21
abbrev rm_cu_isGoodFor : Room := { frames := 0, cells := 0, slots := 0, locals := 0 }
def a_cu_isGoodFor (di : Int64) (i1 : Int32) : Option (Int32) := (if i1 ≤ 0 then (some (0 : Int32)) else (if i1.toInt64 = 0 then none else (if (di - di / i1.toInt64 * i1.toInt64) = (0 : Int64) then (some (0 : Int32)) else (some (1 : Int32)))))
set_option maxHeartbeats 4000000 in
set_option maxRecDepth 100000 in
theorem w_a_cu_isGoodFor (l : Launch) (D : va_G) (cI cJ : ClassId) (qu : Nat) (qr : Nat) (sq : Int64) (li : Int64) (co : Int64) (di : Int64) (rc : Nat → Int32) (i1 : Int32) (r0 : Int32) (hm : a_cu_isGoodFor di i1 = some r0) : Met l y_cu_isGoodFor zs_cu_isGoodFor rm_cu_isGoodFor (zPc [.ref qu, .int i1] D [(qu, .inr (0, [.long sq, .long li, .long co, .long di, .ref qr])), (qr, .inl (cI, 97, .inl rc))] [(cI, .int), (cJ, .long)]) (zRd (some (.int r0))) 0 0 (fun _ => False) := by
  refine zm (by decide) (Nat.le_of_ble_eq_true rfl) ?_
  intro p e s m args below meth c R Q hR hQ hargs hx hb hml hr hlocks hnm hB hown hP hK hD0 ls hl
  have hown : s.vm.findClass "TorsionDesk$Cubic" = some m.cls := hown
  have hl : lv_has ls 2 [(0, .ref qu), (1, .int i1)] := hl
  rw [a_cu_isGoodFor] at hm
  refine lv_iload_n (pc := 0) hx hb d_cu_isGoodFor_0 rfl (lv_at hl 1 rfl) ?_
  refine lv_if_le (pc := 1) (tgt := 20) hx hb d_cu_isGoodFor_1 rfl (fun h1 => ?_) (fun h1 => ?_)
  · rw [if_pos h1] at hm
    refine lv_iconst (pc := 20) (v := (0 : Int32)) hx hb d_cu_isGoodFor_20 (by decide) ?_
    cases hm
    rw [hQ]
    exact W.zret (pc := 21) hx hb hr rfl (fun t ht _ => ⟨rfl, ht⟩) (fun _ h9 => nomatch h9) d_cu_isGoodFor_21
  rw [if_neg h1] at hm
  refine lv_aload_n (pc := 4) hx hb d_cu_isGoodFor_4 rfl (lv_at hl 0 rfl) ?_
  refine va_get (pc := 5) (D := D) (ci := 0) (v := .long di) (C := "TorsionDesk$Cubic") (T := tX0) (N := 5) hx hb hB lX0 hown hK hP 0 rfl rfl 3 (by decide) (hB _ zw_33) (fun _ h9 => h9) rfl d_cu_isGoodFor_5 ?_
  refine lv_iload_n (pc := 8) hx hb d_cu_isGoodFor_8 rfl (lv_at hl 1 rfl) ?_
  refine lv_i2l (pc := 9) hx hb d_cu_isGoodFor_9 rfl ?_
  by_cases g2 : i1.toInt64 = 0
  · rw [if_pos g2] at hm; cases hm
  rw [if_neg g2] at hm
  refine lv_lrem (pc := 10) hx hb d_cu_isGoodFor_10 g2 ?_
  refine lv_lconst (pc := 11) (v := (0 : Int64)) hx hb d_cu_isGoodFor_11 (by decide) ?_
  refine zl_eq (pc := 12) (tgt := 20) hx hb d_cu_isGoodFor_12 d_cu_isGoodFor_13 rfl (fun h3 => ?_) (fun h3 => ?_)
  · rw [if_pos h3] at hm
    refine lv_iconst (pc := 20) (v := (0 : Int32)) hx hb d_cu_isGoodFor_20 (by decide) ?_
    cases hm
    rw [hQ]
    exact W.zret (pc := 21) hx hb hr rfl (fun t ht _ => ⟨rfl, ht⟩) (fun _ h9 => nomatch h9) d_cu_isGoodFor_21
  rw [if_neg h3] at hm
  refine lv_iconst (pc := 16) (v := (1 : Int32)) hx hb d_cu_isGoodFor_16 (by decide) ?_
  refine lv_goto (pc := 17) (tgt := 21) hx hb d_cu_isGoodFor_17 rfl ?_
  cases hm
  rw [hQ]
  exact W.zret (pc := 21) hx hb hr rfl (fun t ht _ => ⟨rfl, ht⟩) (fun _ h9 => nomatch h9) d_cu_isGoodFor_21
abbrev rm_cu_become : Room := { frames := 1, cells := 0, slots := 0, locals := 25 }
def a_cu_become (j1 : Int64) (j2 : Int64) (j3 : Int64) : Option (Int64 × Int64 × Int64 × Int64) := (some (j1, j2, j3, a_cu_discriminantOf j1 j2 j3))
set_option maxHeartbeats 4000000 in
set_option maxRecDepth 100000 in
theorem w_a_cu_become (l : Launch) (D : va_G) (cI cJ : ClassId) (qu : Nat) (qr : Nat) (sq : Int64) (li : Int64) (co : Int64) (di : Int64) (rc : Nat → Int32) (j1 : Int64) (j2 : Int64) (j3 : Int64) (r0 : Int64) (r1 : Int64) (r2 : Int64) (r3 : Int64) (hm : a_cu_become j1 j2 j3 = some (r0, r1, r2, r3)) : Met l y_cu_become zs_cu_become rm_cu_become (zPc [.ref qu, .long j1, .long j2, .long j3] D [(qu, .inr (0, [.long sq, .long li, .long co, .long di, .ref qr])), (qr, .inl (cI, 97, .inl rc))] [(cI, .int), (cJ, .long)]) (zWr none D (zIn [(qu, .inr (0, [.long sq, .long li, .long co, .long di, .ref qr])), (qr, .inl (cI, 97, .inl rc))]) [(qu, .inr (0, [.long r0, .long r1, .long r2, .long r3, .ref qr])), (qr, .inl (cI, 97, .inl rc))]) 0 0 (zIn [(qu, .inr (0, [.long sq, .long li, .long co, .long di, .ref qr])), (qr, .inl (cI, 97, .inl rc))]) := by
  refine zm (by decide) (Nat.le_of_ble_eq_true rfl) ?_
  intro p e s m args below meth c R Q hR hQ hargs hx hb hml hr hlocks hnm hB hown hP hK hD0 ls hl
  have hown : s.vm.findClass "TorsionDesk$Cubic" = some m.cls := hown
  have hl : lv_has ls 7 [(0, .ref qu), (1, .long j1), (3, .long j2), (5, .long j3)] := hl
  obtain ⟨A, hA⟩ : ∃ A, A = zIn [(qu, .inr (0, [.long sq, .long li, .long co, .long di, .ref qr])), (qr, .inl (cI, 97, .inl rc))] := ⟨_, rfl⟩
  have hD : va_D A [(qu, .inr (0, [.long sq, .long li, .long co, .long di, .ref qr])), (qr, .inl (cI, 97, .inl rc))] := by rw [hA]; exact zIn_self hD0
  have hS : va_S A s.heap s.heap [] := va_S.rf
  rw [← hA] at hQ
  have main : ∀ (H : Heap) (locs : List Loc), va_P D vwCl [(qu, .inr (0, [.long sq, .long li, .long co, .long di, .ref qr])), (qr, .inl (cI, 97, .inl rc))] H → va_D A [(qu, .inr (0, [.long sq, .long li, .long co, .long di, .ref qr])), (qr, .inl (cI, 97, .inl rc))] → va_S A s.heap H locs → W p l e R s m args below meth c H locs 0 0 Q (F0 m 0 ls []) := by
    intro H locs hP hD hS
    rw [a_cu_become] at hm
    refine lv_aload_n (pc := 0) hx hb d_cu_become_0 rfl (lv_at hl 0 rfl) ?_
    refine lv_lload_n (pc := 1) hx hb d_cu_become_1 rfl (lv_at hl 1 rfl) ?_
    refine va_put (pc := 2) (D := D) (ci := 0) (v := .long j1) (ty := .long) (C := "TorsionDesk$Cubic") (T := tX0) (N := 5) hx hb hB lX0 yX0 yX0_ok nX0 hown hK hP hD hS 0 rfl rfl 0 (by decide) (hB _ zw_28) (fun _ h9 => h9) rfl (by decide +kernel) rfl rfl (Nat.le_of_ble_eq_true rfl) d_cu_become_2 (fun H locs hP hD hS => ?_)
    have hP : va_P D vwCl [(qu, .inr (0, [.long j1, .long li, .long co, .long di, .ref qr])), (qr, .inl (cI, 97, .inl rc))] H := hP
    have hD : va_D A [(qu, .inr (0, [.long j1, .long li, .long co, .long di, .ref qr])), (qr, .inl (cI, 97, .inl rc))] := hD
    refine lv_aload_n (pc := 5) hx hb d_cu_become_5 rfl (lv_at hl 0 rfl) ?_
    refine lv_lload_n (pc := 6) hx hb d_cu_become_6 rfl (lv_at hl 2 rfl) ?_
    refine va_put (pc := 7) (D := D) (ci := 0) (v := .long j2) (ty := .long) (C := "TorsionDesk$Cubic") (T := tX0) (N := 5) hx hb hB lX0 yX0 yX0_ok nX0 hown hK hP hD hS 0 rfl rfl 1 (by decide) (hB _ zw_30) (fun _ h9 => h9) rfl (by decide +kernel) rfl rfl (Nat.le_of_ble_eq_true rfl) d_cu_become_7 (fun H locs hP hD hS => ?_)
    have hP : va_P D vwCl [(qu, .inr (0, [.long j1, .long j2, .long co, .long di, .ref qr])), (qr, .inl (cI, 97, .inl rc))] H := hP
    have hD : va_D A [(qu, .inr (0, [.long j1, .long j2, .long co, .long di, .ref qr])), (qr, .inl (cI, 97, .inl rc))] := hD
    refine lv_aload_n (pc := 10) hx hb d_cu_become_10 rfl (lv_at hl 0 rfl) ?_
    refine lv_lload (pc := 11) hx hb d_cu_become_11 (lv_at hl 3 rfl) ?_
    refine va_put (pc := 13) (D := D) (ci := 0) (v := .long j3) (ty := .long) (C := "TorsionDesk$Cubic") (T := tX0) (N := 5) hx hb hB lX0 yX0 yX0_ok nX0 hown hK hP hD hS 0 rfl rfl 2 (by decide) (hB _ zw_31) (fun _ h9 => h9) rfl (by decide +kernel) rfl rfl (Nat.le_of_ble_eq_true rfl) d_cu_become_13 (fun H locs hP hD hS => ?_)
    have hP : va_P D vwCl [(qu, .inr (0, [.long j1, .long j2, .long j3, .long di, .ref qr])), (qr, .inl (cI, 97, .inl rc))] H := hP
    have hD : va_D A [(qu, .inr (0, [.long j1, .long j2, .long j3, .long di, .ref qr])), (qr, .inl (cI, 97, .inl rc))] := hD
    refine lv_aload_n (pc := 16) hx hb d_cu_become_16 rfl (lv_at hl 0 rfl) ?_
    refine lv_lload_n (pc := 17) hx hb d_cu_become_17 rfl (lv_at hl 1 rfl) ?_
    refine lv_lload_n (pc := 18) hx hb d_cu_become_18 rfl (lv_at hl 2 rfl) ?_
    refine lv_lload (pc := 19) hx hb d_cu_become_19 (lv_at hl 3 rfl) ?_
    refine zcS (pc := 21) (As := [.long j1, .long j2, .long j3]) (rest := [.ref qu]) ⟨hx, hb, hml, hown, hB⟩ (w_a_cu_discriminantOf l D cI cJ j1 j2 j3 _ rfl) (va_cwS 3 hB (zgS zw_336 zw_311 zw_2 zw_312) rfl rfl rfl (by decide +kernel) ⟨by rw [hR]; exact Nat.le_of_ble_eq_true rfl, by rw [hR]; exact Nat.le_of_ble_eq_true rfl⟩) hK (hP.sub (ws' := []) [] rfl) (hD.sub (ws' := []) [] (by decide) rfl) rfl hl.1 rfl (Nat.le_of_ble_eq_true rfl) d_cu_become_21 ⟨Nat.zero_le _, Nat.zero_le _⟩ ?_
    refine va_put (pc := 24) (D := D) (ci := 0) (v := .long (a_cu_discriminantOf j1 j2 j3)) (ty := .long) (C := "TorsionDesk$Cubic") (T := tX0) (N := 5) hx hb hB lX0 yX0 yX0_ok nX0 hown hK hP hD hS 0 rfl rfl 3 (by decide) (hB _ zw_33) (fun _ h9 => h9) rfl (by decide +kernel) rfl rfl (Nat.le_of_ble_eq_true rfl) d_cu_become_24 (fun H locs hP hD hS => ?_)
    have hP : va_P D vwCl [(qu, .inr (0, [.long j1, .long j2, .long j3, .long (a_cu_discriminantOf j1 j2 j3), .ref qr])), (qr, .inl (cI, 97, .inl rc))] H := hP
    have hD : va_D A [(qu, .inr (0, [.long j1, .long j2, .long j3, .long (a_cu_discriminantOf j1 j2 j3), .ref qr])), (qr, .inl (cI, 97, .inl rc))] := hD
    cases hm
    rw [hQ]
    exact W.vret (pc := 27) hx hb hr (fun t ht _ => ⟨rfl, by rw [ht]; exact hP, hS.F ht⟩) hS.2.2 d_cu_become_27
  exact main s.heap [] hP hD hS
abbrev rm_cu_countFor : Room := { frames := 1, cells := 0, slots := 0, locals := 25 }
def a_cu_countFor_L52 (sq : Int64) (li : Int64) (co : Int64) (i1 : Int32) : Nat → (Nat → Int32) → Int32 → Int32 → Option (Int32 × (Nat → Int32))
  | 0, _, _, _ => none
  | n + 1, a1_52, x2_52, x3_52 => (if i1 ≤ x3_52 then (some (x2_52, a1_52)) else ((a_ma_floorMod_JJx (a_cu_valueAt sq li co x3_52.toInt64) i1.toInt64).bind (fun r_c70 => (if (r_c70.toInt32 < 0 ∨ 97 ≤ r_c70.toInt32.toNatClampNeg) then none else a_cu_countFor_L52 sq li co i1 n a1_52 (x2_52 + (a1_52 r_c70.toInt32.toNatClampNeg)) (x3_52 + (1 : Int32))))))
def a_cu_countFor_L23 (sq : Int64) (li : Int64) (co : Int64) (i1 : Int32) : Nat → (Nat → Int32) → Int32 → Option (Int32 × (Nat → Int32))
  | 0, _, _ => none
  | n + 1, a1_23, x2_23 => (if i1 ≤ x2_23 then a_cu_countFor_L52 sq li co i1 n a1_23 (1 : Int32) (0 : Int32) else (if i1 = 0 then none else (if (((x2_23 * x2_23) - (x2_23 * x2_23) / i1 * i1) < 0 ∨ 97 ≤ ((x2_23 * x2_23) - (x2_23 * x2_23) / i1 * i1).toNatClampNeg) then none else a_cu_countFor_L23 sq li co i1 n (upd a1_23 ((x2_23 * x2_23) - (x2_23 * x2_23) / i1 * i1).toNatClampNeg ((a1_23 ((x2_23 * x2_23) - (x2_23 * x2_23) / i1 * i1).toNatClampNeg) + (1 : Int32))) (x2_23 + (1 : Int32)))))
def a_cu_countFor (N : Nat) (sq : Int64) (li : Int64) (co : Int64) (rc : Nat → Int32) (i1 : Int32) : Option (Int32 × (Nat → Int32)) := (if i1 < (1 : Int32) then (some ((0 : Int32), rc)) else (if i1 ≤ (97 : Int32) then ((a_ar_fill N rc (0 : Int32)).bind (fun o0_c18 => a_cu_countFor_L23 sq li co i1 N o0_c18 (0 : Int32))) else (some ((0 : Int32), rc))))
set_option maxHeartbeats 4000000 in
set_option maxRecDepth 100000 in
theorem w_a_cu_countFor (l : Launch) (D : va_G) (cI cJ : ClassId) (qu : Nat) (qr : Nat) (sq : Int64) (li : Int64) (co : Int64) (di : Int64) (rc : Nat → Int32) (i1 : Int32) (N : Nat) (r0 : Int32) (r1 : Nat → Int32) (hm : a_cu_countFor N sq li co rc i1 = some (r0, r1)) : Met l y_cu_countFor zs_cu_countFor rm_cu_countFor (zPc [.ref qu, .int i1] D [(qu, .inr (0, [.long sq, .long li, .long co, .long di, .ref qr])), (qr, .inl (cI, 97, .inl rc))] [(cI, .int), (cJ, .long)]) (zWr (some (.int r0)) D (zIn [(qu, .inr (0, [.long sq, .long li, .long co, .long di, .ref qr])), (qr, .inl (cI, 97, .inl rc))]) [(qu, .inr (0, [.long sq, .long li, .long co, .long di, .ref qr])), (qr, .inl (cI, 97, .inl r1))]) 0 0 (zIn [(qu, .inr (0, [.long sq, .long li, .long co, .long di, .ref qr])), (qr, .inl (cI, 97, .inl rc))]) := by
  refine zm (by decide) (Nat.le_of_ble_eq_true rfl) ?_
  intro p e s m args below meth c R Q hR hQ hargs hx hb hml hr hlocks hnm hB hown hP hK hD0 ls hl
  have hown : s.vm.findClass "TorsionDesk$Cubic" = some m.cls := hown
  have hl : lv_has ls 4 [(0, .ref qu), (1, .int i1)] := hl
  obtain ⟨A, hA⟩ : ∃ A, A = zIn [(qu, .inr (0, [.long sq, .long li, .long co, .long di, .ref qr])), (qr, .inl (cI, 97, .inl rc))] := ⟨_, rfl⟩
  have hD : va_D A [(qu, .inr (0, [.long sq, .long li, .long co, .long di, .ref qr])), (qr, .inl (cI, 97, .inl rc))] := by rw [hA]; exact zIn_self hD0
  have hS : va_S A s.heap s.heap [] := va_S.rf
  rw [← hA] at hQ
  have k52 : ∀ (n : Nat) (a1_52 : Nat → Int32) (x2_52 : Int32) (x3_52 : Int32) (H : Heap) (locs : List Loc) (ls : Array Slot), lv_has ls 4 [(0, .ref qu), (1, .int i1), (2, .int x2_52), (3, .int x3_52)] → va_P D vwCl [(qu, .inr (0, [.long sq, .long li, .long co, .long di, .ref qr])), (qr, .inl (cI, 97, .inl a1_52))] H → va_D A [(qu, .inr (0, [.long sq, .long li, .long co, .long di, .ref qr])), (qr, .inl (cI, 97, .inl a1_52))] → va_S A s.heap H locs → a_cu_countFor_L52 sq li co i1 n a1_52 x2_52 x3_52 = some (r0, r1) → W p l e R s m args below meth c H locs 0 0 Q (F0 m 52 ls []) := by
    intro n
    induction n with
    | zero => intro a1_52 x2_52 x3_52  H locs ls hl hP hD hS hm; rw [a_cu_countFor_L52] at hm; cases hm
    | succ n ih =>
      intro a1_52 x2_52 x3_52  H locs ls hl hP hD hS hm
      rw [a_cu_countFor_L52] at hm
      refine lv_iload_n (pc := 52) hx hb d_cu_countFor_52 rfl (lv_at hl 3 rfl) ?_
      refine lv_iload_n (pc := 53) hx hb d_cu_countFor_53 rfl (lv_at hl 1 rfl) ?_
      refine lv_icmp_ge (pc := 54) (tgt := 83) hx hb d_cu_countFor_54 rfl (fun h4 => ?_) (fun h4 => ?_)
      · rw [if_pos h4] at hm
        refine lv_iload_n (pc := 83) hx hb d_cu_countFor_83 rfl (lv_at hl 2 rfl) ?_
        cases hm
        rw [hQ]
        exact W.iret (pc := 84) hx hb hr (fun t ht _ => ⟨rfl, by rw [ht]; exact hP, hS.F ht⟩) hS.2.2 d_cu_countFor_84
      rw [if_neg h4] at hm
      refine lv_iload_n (pc := 57) hx hb d_cu_countFor_57 rfl (lv_at hl 2 rfl) ?_
      refine lv_aload_n (pc := 58) hx hb d_cu_countFor_58 rfl (lv_at hl 0 rfl) ?_
      refine va_get (pc := 59) (D := D) (ci := 0) (v := .ref qr) (C := "TorsionDesk$Cubic") (T := tX0) (N := 5) hx hb hB lX0 hown hK hP 0 rfl rfl 4 (by decide) (hB _ zw_34) (fun _ h9 => h9) rfl d_cu_countFor_59 ?_
      refine lv_aload_n (pc := 62) hx hb d_cu_countFor_62 rfl (lv_at hl 0 rfl) ?_
      refine lv_iload_n (pc := 63) hx hb d_cu_countFor_63 rfl (lv_at hl 3 rfl) ?_
      refine lv_i2l (pc := 64) hx hb d_cu_countFor_64 rfl ?_
      refine zcV (pc := 65) (As := [.long x3_52.toInt64]) (rest := [.ref qr, .int x2_52]) ⟨hx, hb, hml, hown, hB⟩ (w_a_cu_valueAt l D cI cJ qu qr sq li co di a1_52 x3_52.toInt64 _ rfl) (cwV 1 hB (zgV zw_220 zw_221 zw_222 zw_2 zw_223) rfl rfl rfl (by decide +kernel) ⟨by rw [hR]; exact Nat.le_of_ble_eq_true rfl, by rw [hR]; exact Nat.le_of_ble_eq_true rfl⟩) hK (hP.sub (ws' := [(qu, .inr (0, [.long sq, .long li, .long co, .long di, .ref qr])), (qr, .inl (cI, 97, .inl a1_52))]) [0, 1] rfl) (hD.sub (ws' := [(qu, .inr (0, [.long sq, .long li, .long co, .long di, .ref qr])), (qr, .inl (cI, 97, .inl a1_52))]) [0, 1] (by decide) rfl) rfl rfl rfl rfl hl.1 rfl (Nat.le_of_ble_eq_true rfl) d_cu_countFor_65 ⟨Nat.zero_le _, Nat.zero_le _⟩ ?_
      refine lv_iload_n (pc := 68) hx hb d_cu_countFor_68 rfl (lv_at hl 1 rfl) ?_
      refine lv_i2l (pc := 69) hx hb d_cu_countFor_69 rfl ?_
      obtain ⟨r_c70, c5, hm⟩ := zbind hm
      try dsimp only at hm
      refine zcS (pc := 70) (As := [.long (a_cu_valueAt sq li co x3_52.toInt64), .long i1.toInt64]) (rest := [.ref qr, .int x2_52]) ⟨hx, hb, hml, hown, hB⟩ (w_a_ma_floorMod_JJx l D cI cJ (a_cu_valueAt sq li co x3_52.toInt64) i1.toInt64 r_c70 c5) (va_cwS 2 hB (zgS zw_224 zw_225 zw_11 zw_226) rfl rfl rfl (by decide +kernel) ⟨by rw [hR]; exact Nat.le_of_ble_eq_true rfl, by rw [hR]; exact Nat.le_of_ble_eq_true rfl⟩) hK (hP.sub (ws' := []) [] rfl) (hD.sub (ws' := []) [] (by decide) rfl) rfl hl.1 rfl (Nat.le_of_ble_eq_true rfl) d_cu_countFor_70 ⟨Nat.zero_le _, Nat.zero_le _⟩ ?_
      refine lv_l2i (pc := 73) hx hb d_cu_countFor_73 rfl ?_
      by_cases g6 : (r_c70.toInt32 < 0 ∨ 97 ≤ r_c70.toInt32.toNatClampNeg)
      · rw [if_pos g6] at hm; cases hm
      rw [if_neg g6] at hm
      refine va_iald (pc := 74) hx hb hK hP 1 0 rfl rfl g6 d_cu_countFor_74 ?_
      refine lv_iadd (pc := 75) hx hb d_cu_countFor_75 ?_
      refine lv_istore_n (pc := 76) (lv' := [(2, .int (x2_52 + (a1_52 r_c70.toInt32.toNatClampNeg))), (0, .ref qu), (1, .int i1), (3, .int x3_52)]) hx hb d_cu_countFor_76 rfl hl (Nat.le_of_ble_eq_true rfl) rfl (fun ls hl => ?_)
      refine lv_iinc (pc := 77) (k := 3) (v := x3_52 + (1 : Int32)) (lv' := [(3, .int (x3_52 + (1 : Int32))), (2, .int (x2_52 + (a1_52 r_c70.toInt32.toNatClampNeg))), (0, .ref qu), (1, .int i1)]) hx hb d_cu_countFor_77 hl rfl (congrArg (x3_52 + ·) (by decide)) (Nat.le_of_ble_eq_true rfl) rfl (fun ls hl => ?_)
      refine lv_goto (pc := 80) (tgt := 52) hx hb d_cu_countFor_80 rfl ?_
      exact ih a1_52 (x2_52 + (a1_52 r_c70.toInt32.toNatClampNeg)) (x3_52 + (1 : Int32)) H locs ls (lv_sub hl [2, 3, 1, 0] rfl) hP hD hS hm
  have k23 : ∀ (n : Nat) (a1_23 : Nat → Int32) (x2_23 : Int32) (H : Heap) (locs : List Loc) (ls : Array Slot), lv_has ls 4 [(0, .ref qu), (1, .int i1), (2, .int x2_23)] → va_P D vwCl [(qu, .inr (0, [.long sq, .long li, .long co, .long di, .ref qr])), (qr, .inl (cI, 97, .inl a1_23))] H → va_D A [(qu, .inr (0, [.long sq, .long li, .long co, .long di, .ref qr])), (qr, .inl (cI, 97, .inl a1_23))] → va_S A s.heap H locs → a_cu_countFor_L23 sq li co i1 n a1_23 x2_23 = some (r0, r1) → W p l e R s m args below meth c H locs 0 0 Q (F0 m 23 ls []) := by
    intro n
    induction n with
    | zero => intro a1_23 x2_23  H locs ls hl hP hD hS hm; rw [a_cu_countFor_L23] at hm; cases hm
    | succ n ih =>
      intro a1_23 x2_23  H locs ls hl hP hD hS hm
      rw [a_cu_countFor_L23] at hm
      refine lv_iload_n (pc := 23) hx hb d_cu_countFor_23 rfl (lv_at hl 2 rfl) ?_
      refine lv_iload_n (pc := 24) hx hb d_cu_countFor_24 rfl (lv_at hl 1 rfl) ?_
      refine lv_icmp_ge (pc := 25) (tgt := 48) hx hb d_cu_countFor_25 rfl (fun h1 => ?_) (fun h1 => ?_)
      · rw [if_pos h1] at hm
        refine lv_iconst (pc := 48) (v := (1 : Int32)) hx hb d_cu_countFor_48 (by decide) ?_
        refine lv_istore_n (pc := 49) (lv' := [(2, .int (1 : Int32)), (0, .ref qu), (1, .int i1)]) hx hb d_cu_countFor_49 rfl hl (Nat.le_of_ble_eq_true rfl) rfl (fun ls hl => ?_)
        refine lv_iconst (pc := 50) (v := (0 : Int32)) hx hb d_cu_countFor_50 (by decide) ?_
        refine lv_istore_n (pc := 51) (lv' := [(3, .int (0 : Int32)), (2, .int (1 : Int32)), (0, .ref qu), (1, .int i1)]) hx hb d_cu_countFor_51 rfl hl (Nat.le_of_ble_eq_true rfl) rfl (fun ls hl => ?_)
        exact k52 n a1_23 (1 : Int32) (0 : Int32) H locs ls (lv_sub hl [2, 3, 1, 0] rfl) hP hD hS hm
      rw [if_neg h1] at hm
      refine lv_aload_n (pc := 28) hx hb d_cu_countFor_28 rfl (lv_at hl 0 rfl) ?_
      refine va_get (pc := 29) (D := D) (ci := 0) (v := .ref qr) (C := "TorsionDesk$Cubic") (T := tX0) (N := 5) hx hb hB lX0 hown hK hP 0 rfl rfl 4 (by decide) (hB _ zw_34) (fun _ h9 => h9) rfl d_cu_countFor_29 ?_
      refine lv_iload_n (pc := 32) hx hb d_cu_countFor_32 rfl (lv_at hl 2 rfl) ?_
      refine lv_iload_n (pc := 33) hx hb d_cu_countFor_33 rfl (lv_at hl 2 rfl) ?_
      refine lv_imul (pc := 34) hx hb d_cu_countFor_34 ?_
      refine lv_iload_n (pc := 35) hx hb d_cu_countFor_35 rfl (lv_at hl 1 rfl) ?_
      by_cases g2 : i1 = 0
      · rw [if_pos g2] at hm; cases hm
      rw [if_neg g2] at hm
      refine lv_irem (pc := 36) hx hb d_cu_countFor_36 g2 ?_
      refine lv_dup2_11 (pc := 37) hx hb d_cu_countFor_37 rfl rfl ?_
      by_cases g3 : (((x2_23 * x2_23) - (x2_23 * x2_23) / i1 * i1) < 0 ∨ 97 ≤ ((x2_23 * x2_23) - (x2_23 * x2_23) / i1 * i1).toNatClampNeg)
      · rw [if_pos g3] at hm; cases hm
      rw [if_neg g3] at hm
      refine va_iald (pc := 38) hx hb hK hP 1 0 rfl rfl g3 d_cu_countFor_38 ?_
      refine lv_iconst (pc := 39) (v := (1 : Int32)) hx hb d_cu_countFor_39 (by decide) ?_
      refine lv_iadd (pc := 40) hx hb d_cu_countFor_40 ?_
      refine va_iast (pc := 41) hx hb hK hP hD hS 1 0 rfl rfl g3 d_cu_countFor_41 (fun H locs hP hD hS => ?_)
      have hP : va_P D vwCl [(qu, .inr (0, [.long sq, .long li, .long co, .long di, .ref qr])), (qr, .inl (cI, 97, .inl (upd a1_23 ((x2_23 * x2_23) - (x2_23 * x2_23) / i1 * i1).toNatClampNeg ((a1_23 ((x2_23 * x2_23) - (x2_23 * x2_23) / i1 * i1).toNatClampNeg) + (1 : Int32)))))] H := hP
      have hD : va_D A [(qu, .inr (0, [.long sq, .long li, .long co, .long di, .ref qr])), (qr, .inl (cI, 97, .inl (upd a1_23 ((x2_23 * x2_23) - (x2_23 * x2_23) / i1 * i1).toNatClampNeg ((a1_23 ((x2_23 * x2_23) - (x2_23 * x2_23) / i1 * i1).toNatClampNeg) + (1 : Int32)))))] := hD
      refine lv_iinc (pc := 42) (k := 2) (v := x2_23 + (1 : Int32)) (lv' := [(2, .int (x2_23 + (1 : Int32))), (0, .ref qu), (1, .int i1)]) hx hb d_cu_countFor_42 hl rfl (congrArg (x2_23 + ·) (by decide)) (Nat.le_of_ble_eq_true rfl) rfl (fun ls hl => ?_)
      refine lv_goto (pc := 45) (tgt := 23) hx hb d_cu_countFor_45 rfl ?_
      exact ih (upd a1_23 ((x2_23 * x2_23) - (x2_23 * x2_23) / i1 * i1).toNatClampNeg ((a1_23 ((x2_23 * x2_23) - (x2_23 * x2_23) / i1 * i1).toNatClampNeg) + (1 : Int32))) (x2_23 + (1 : Int32)) H locs ls (lv_sub hl [1, 2, 0] rfl) hP hD hS hm
  have main : ∀ (H : Heap) (locs : List Loc), va_P D vwCl [(qu, .inr (0, [.long sq, .long li, .long co, .long di, .ref qr])), (qr, .inl (cI, 97, .inl rc))] H → va_D A [(qu, .inr (0, [.long sq, .long li, .long co, .long di, .ref qr])), (qr, .inl (cI, 97, .inl rc))] → va_S A s.heap H locs → W p l e R s m args below meth c H locs 0 0 Q (F0 m 0 ls []) := by
    intro H locs hP hD hS
    rw [a_cu_countFor] at hm
    refine lv_iload_n (pc := 0) hx hb d_cu_countFor_0 rfl (lv_at hl 1 rfl) ?_
    refine lv_iconst (pc := 1) (v := (1 : Int32)) hx hb d_cu_countFor_1 (by decide) ?_
    refine lv_icmp_lt (pc := 2) (tgt := 11) hx hb d_cu_countFor_2 rfl (fun h1 => ?_) (fun h1 => ?_)
    · rw [if_pos h1] at hm
      refine lv_iconst (pc := 11) (v := (0 : Int32)) hx hb d_cu_countFor_11 (by decide) ?_
      cases hm
      rw [hQ]
      exact W.iret (pc := 12) hx hb hr (fun t ht _ => ⟨rfl, by rw [ht]; exact hP, hS.F ht⟩) hS.2.2 d_cu_countFor_12
    rw [if_neg h1] at hm
    refine lv_iload_n (pc := 5) hx hb d_cu_countFor_5 rfl (lv_at hl 1 rfl) ?_
    refine lv_bipush (pc := 6) (v := (97 : Int32)) hx hb d_cu_countFor_6 (by decide) ?_
    refine lv_icmp_le (pc := 8) (tgt := 13) hx hb d_cu_countFor_8 rfl (fun h2 => ?_) (fun h2 => ?_)
    · rw [if_pos h2] at hm
      refine lv_aload_n (pc := 13) hx hb d_cu_countFor_13 rfl (lv_at hl 0 rfl) ?_
      refine va_get (pc := 14) (D := D) (ci := 0) (v := .ref qr) (C := "TorsionDesk$Cubic") (T := tX0) (N := 5) hx hb hB lX0 hown hK hP 0 rfl rfl 4 (by decide) (hB _ zw_34) (fun _ h9 => h9) rfl d_cu_countFor_14 ?_
      refine lv_iconst (pc := 17) (v := (0 : Int32)) hx hb d_cu_countFor_17 (by decide) ?_
      obtain ⟨o0_c18, c3, hm⟩ := zbind hm
      try dsimp only at hm
      refine zwS (pc := 18) (As := [.ref qr, .int (0 : Int32)]) (rest := []) ⟨hx, hb, hml, hown, hB⟩ (w_a_ar_fill l D cI cJ qr rc (0 : Int32) N o0_c18 c3) (va_cwS 2 hB (zgS zw_217 zw_218 zw_13 zw_219) rfl rfl rfl (by decide +kernel) ⟨by rw [hR]; exact Nat.le_of_ble_eq_true rfl, by rw [hR]; exact Nat.le_of_ble_eq_true rfl⟩) hK hP hD hS [1] (by decide) rfl rfl rfl hl.1 rfl (Nat.le_of_ble_eq_true rfl) d_cu_countFor_18 ⟨Nat.zero_le _, Nat.zero_le _⟩ (fun H locs hP hD hS => ?_)
      have hP : va_P D vwCl [(qu, .inr (0, [.long sq, .long li, .long co, .long di, .ref qr])), (qr, .inl (cI, 97, .inl o0_c18))] H := hP
      have hD : va_D A [(qu, .inr (0, [.long sq, .long li, .long co, .long di, .ref qr])), (qr, .inl (cI, 97, .inl o0_c18))] := hD
      refine lv_iconst (pc := 21) (v := (0 : Int32)) hx hb d_cu_countFor_21 (by decide) ?_
      refine lv_istore_n (pc := 22) (lv' := [(2, .int (0 : Int32)), (0, .ref qu), (1, .int i1)]) hx hb d_cu_countFor_22 rfl hl (Nat.le_of_ble_eq_true rfl) rfl (fun ls hl => ?_)
      exact k23 N o0_c18 (0 : Int32) H locs ls (lv_sub hl [1, 2, 0] rfl) hP hD hS hm
    rw [if_neg h2] at hm
    refine lv_iconst (pc := 11) (v := (0 : Int32)) hx hb d_cu_countFor_11 (by decide) ?_
    cases hm
    rw [hQ]
    exact W.iret (pc := 12) hx hb hr (fun t ht _ => ⟨rfl, by rw [ht]; exact hP, hS.F ht⟩) hS.2.2 d_cu_countFor_12
  exact main s.heap [] hP hD hS
