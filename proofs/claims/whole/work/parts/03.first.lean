abbrev rm_cu_discriminantOf : Room := { frames := 0, cells := 0, slots := 0, locals := 0 }
def a_cu_discriminantOf (j1 : Int64) (j2 : Int64) (j3 : Int64) : Int64 := ((((((j1 * j1) * j2) * j2) - ((((4 : Int64) * j2) * j2) * j2)) - (((((4 : Int64) * j1) * j1) * j1) * j3)) - (((27 : Int64) * j3) * j3)) + ((((18 : Int64) * j1) * j2) * j3)
set_option maxHeartbeats 4000000 in
set_option maxRecDepth 100000 in
theorem w_a_cu_discriminantOf (l : Launch) (D : va_G) (cI cJ : ClassId) (j1 : Int64) (j2 : Int64) (j3 : Int64) (r0 : Int64) (hm : a_cu_discriminantOf j1 j2 j3 = r0) : Met l y_cu_discriminantOf zs_cu_discriminantOf rm_cu_discriminantOf (zPc [.long j1, .long j2, .long j3] D [] [(cI, .int), (cJ, .long)]) (zRd (some (.long r0))) 0 0 (fun _ => False) := by
  refine zm (by decide) (Nat.le_of_ble_eq_true rfl) ?_
  intro p e s m args below meth c R Q hR hQ hargs hx hb hml hr hlocks hnm hB hown hP hK hD0 ls hl
  have hown : s.vm.findClass "TorsionDesk$Cubic" = some m.cls := hown
  have hl : lv_has ls 6 [(0, .long j1), (2, .long j2), (4, .long j3)] := hl
  rw [a_cu_discriminantOf] at hm
  refine lv_lload_n (pc := 0) hx hb d_cu_discriminantOf_0 rfl (lv_at hl 0 rfl) ?_
  refine lv_lload_n (pc := 1) hx hb d_cu_discriminantOf_1 rfl (lv_at hl 0 rfl) ?_
  refine lv_lmul (pc := 2) hx hb d_cu_discriminantOf_2 ?_
  refine lv_lload_n (pc := 3) hx hb d_cu_discriminantOf_3 rfl (lv_at hl 1 rfl) ?_
  refine lv_lmul (pc := 4) hx hb d_cu_discriminantOf_4 ?_
  refine lv_lload_n (pc := 5) hx hb d_cu_discriminantOf_5 rfl (lv_at hl 1 rfl) ?_
  refine lv_lmul (pc := 6) hx hb d_cu_discriminantOf_6 ?_
  refine lv_ldc2 (pc := 7) (v := (4 : Int64)) hx hb hown (hB _ zw_313) d_cu_discriminantOf_7 ?_
  refine lv_lload_n (pc := 10) hx hb d_cu_discriminantOf_10 rfl (lv_at hl 1 rfl) ?_
  refine lv_lmul (pc := 11) hx hb d_cu_discriminantOf_11 ?_
  refine lv_lload_n (pc := 12) hx hb d_cu_discriminantOf_12 rfl (lv_at hl 1 rfl) ?_
  refine lv_lmul (pc := 13) hx hb d_cu_discriminantOf_13 ?_
  refine lv_lload_n (pc := 14) hx hb d_cu_discriminantOf_14 rfl (lv_at hl 1 rfl) ?_
  refine lv_lmul (pc := 15) hx hb d_cu_discriminantOf_15 ?_
  refine lv_lsub (pc := 16) hx hb d_cu_discriminantOf_16 ?_
  refine lv_ldc2 (pc := 17) (v := (4 : Int64)) hx hb hown (hB _ zw_313) d_cu_discriminantOf_17 ?_
  refine lv_lload_n (pc := 20) hx hb d_cu_discriminantOf_20 rfl (lv_at hl 0 rfl) ?_
  refine lv_lmul (pc := 21) hx hb d_cu_discriminantOf_21 ?_
  refine lv_lload_n (pc := 22) hx hb d_cu_discriminantOf_22 rfl (lv_at hl 0 rfl) ?_
  refine lv_lmul (pc := 23) hx hb d_cu_discriminantOf_23 ?_
  refine lv_lload_n (pc := 24) hx hb d_cu_discriminantOf_24 rfl (lv_at hl 0 rfl) ?_
  refine lv_lmul (pc := 25) hx hb d_cu_discriminantOf_25 ?_
  refine lv_lload (pc := 26) hx hb d_cu_discriminantOf_26 (lv_at hl 2 rfl) ?_
  refine lv_lmul (pc := 28) hx hb d_cu_discriminantOf_28 ?_
  refine lv_lsub (pc := 29) hx hb d_cu_discriminantOf_29 ?_
  refine lv_ldc2 (pc := 30) (v := (27 : Int64)) hx hb hown (hB _ zw_314) d_cu_discriminantOf_30 ?_
  refine lv_lload (pc := 33) hx hb d_cu_discriminantOf_33 (lv_at hl 2 rfl) ?_
  refine lv_lmul (pc := 35) hx hb d_cu_discriminantOf_35 ?_
  refine lv_lload (pc := 36) hx hb d_cu_discriminantOf_36 (lv_at hl 2 rfl) ?_
  refine lv_lmul (pc := 38) hx hb d_cu_discriminantOf_38 ?_
  refine lv_lsub (pc := 39) hx hb d_cu_discriminantOf_39 ?_
  refine lv_ldc2 (pc := 40) (v := (18 : Int64)) hx hb hown (hB _ zw_315) d_cu_discriminantOf_40 ?_
  refine lv_lload_n (pc := 43) hx hb d_cu_discriminantOf_43 rfl (lv_at hl 0 rfl) ?_
  refine lv_lmul (pc := 44) hx hb d_cu_discriminantOf_44 ?_
  refine lv_lload_n (pc := 45) hx hb d_cu_discriminantOf_45 rfl (lv_at hl 1 rfl) ?_
  refine lv_lmul (pc := 46) hx hb d_cu_discriminantOf_46 ?_
  refine lv_lload (pc := 47) hx hb d_cu_discriminantOf_47 (lv_at hl 2 rfl) ?_
  refine lv_lmul (pc := 49) hx hb d_cu_discriminantOf_49 ?_
  refine lv_ladd (pc := 50) hx hb d_cu_discriminantOf_50 ?_
  subst hm
  rw [hQ]
  exact W.lret (pc := 51) hx hb hr (fun t ht _ => ⟨rfl, ht⟩) (fun _ h9 => nomatch h9) d_cu_discriminantOf_51
abbrev rm_cu_valueAt : Room := { frames := 0, cells := 0, slots := 0, locals := 0 }
def a_cu_valueAt (sq : Int64) (li : Int64) (co : Int64) (j1 : Int64) : Int64 := ((((j1 + sq) * j1) + li) * j1) + co
set_option maxHeartbeats 4000000 in
set_option maxRecDepth 100000 in
theorem w_a_cu_valueAt (l : Launch) (D : va_G) (cI cJ : ClassId) (qu : Nat) (qr : Nat) (sq : Int64) (li : Int64) (co : Int64) (di : Int64) (rc : Nat → Int32) (j1 : Int64) (r0 : Int64) (hm : a_cu_valueAt sq li co j1 = r0) : Met l y_cu_valueAt zs_cu_valueAt rm_cu_valueAt (zPc [.ref qu, .long j1] D [(qu, .inr (0, [.long sq, .long li, .long co, .long di, .ref qr])), (qr, .inl (cI, 97, .inl rc))] [(cI, .int), (cJ, .long)]) (zRd (some (.long r0))) 0 0 (fun _ => False) := by
  refine zm (by decide) (Nat.le_of_ble_eq_true rfl) ?_
  intro p e s m args below meth c R Q hR hQ hargs hx hb hml hr hlocks hnm hB hown hP hK hD0 ls hl
  have hown : s.vm.findClass "TorsionDesk$Cubic" = some m.cls := hown
  have hl : lv_has ls 3 [(0, .ref qu), (1, .long j1)] := hl
  rw [a_cu_valueAt] at hm
  refine lv_lload_n (pc := 0) hx hb d_cu_valueAt_0 rfl (lv_at hl 1 rfl) ?_
  refine lv_aload_n (pc := 1) hx hb d_cu_valueAt_1 rfl (lv_at hl 0 rfl) ?_
  refine va_get (pc := 2) (D := D) (ci := 0) (v := .long sq) (C := "TorsionDesk$Cubic") (T := tX0) (N := 5) hx hb hB lX0 hown hK hP 0 rfl rfl 0 (by decide) (hB _ zw_28) (fun _ h9 => h9) rfl d_cu_valueAt_2 ?_
  refine lv_ladd (pc := 5) hx hb d_cu_valueAt_5 ?_
  refine lv_lload_n (pc := 6) hx hb d_cu_valueAt_6 rfl (lv_at hl 1 rfl) ?_
  refine lv_lmul (pc := 7) hx hb d_cu_valueAt_7 ?_
  refine lv_aload_n (pc := 8) hx hb d_cu_valueAt_8 rfl (lv_at hl 0 rfl) ?_
  refine va_get (pc := 9) (D := D) (ci := 0) (v := .long li) (C := "TorsionDesk$Cubic") (T := tX0) (N := 5) hx hb hB lX0 hown hK hP 0 rfl rfl 1 (by decide) (hB _ zw_30) (fun _ h9 => h9) rfl d_cu_valueAt_9 ?_
  refine lv_ladd (pc := 12) hx hb d_cu_valueAt_12 ?_
  refine lv_lload_n (pc := 13) hx hb d_cu_valueAt_13 rfl (lv_at hl 1 rfl) ?_
  refine lv_lmul (pc := 14) hx hb d_cu_valueAt_14 ?_
  refine lv_aload_n (pc := 15) hx hb d_cu_valueAt_15 rfl (lv_at hl 0 rfl) ?_
  refine va_get (pc := 16) (D := D) (ci := 0) (v := .long co) (C := "TorsionDesk$Cubic") (T := tX0) (N := 5) hx hb hB lX0 hown hK hP 0 rfl rfl 2 (by decide) (hB _ zw_31) (fun _ h9 => h9) rfl d_cu_valueAt_16 ?_
  refine lv_ladd (pc := 19) hx hb d_cu_valueAt_19 ?_
  subst hm
  rw [hQ]
  exact W.lret (pc := 20) hx hb hr (fun t ht _ => ⟨rfl, ht⟩) (fun _ h9 => nomatch h9) d_cu_valueAt_20
abbrev rm_cu_steepnessAt : Room := { frames := 0, cells := 0, slots := 0, locals := 0 }
def a_cu_steepnessAt (sq : Int64) (li : Int64) (j1 : Int64) : Int64 := ((((3 : Int64) * j1) + ((2 : Int64) * sq)) * j1) + li
set_option maxHeartbeats 4000000 in
set_option maxRecDepth 100000 in
theorem w_a_cu_steepnessAt (l : Launch) (D : va_G) (cI cJ : ClassId) (qu : Nat) (qr : Nat) (sq : Int64) (li : Int64) (co : Int64) (di : Int64) (rc : Nat → Int32) (j1 : Int64) (r0 : Int64) (hm : a_cu_steepnessAt sq li j1 = r0) : Met l y_cu_steepnessAt zs_cu_steepnessAt rm_cu_steepnessAt (zPc [.ref qu, .long j1] D [(qu, .inr (0, [.long sq, .long li, .long co, .long di, .ref qr])), (qr, .inl (cI, 97, .inl rc))] [(cI, .int), (cJ, .long)]) (zRd (some (.long r0))) 0 0 (fun _ => False) := by
  refine zm (by decide) (Nat.le_of_ble_eq_true rfl) ?_
  intro p e s m args below meth c R Q hR hQ hargs hx hb hml hr hlocks hnm hB hown hP hK hD0 ls hl
  have hown : s.vm.findClass "TorsionDesk$Cubic" = some m.cls := hown
  have hl : lv_has ls 3 [(0, .ref qu), (1, .long j1)] := hl
  rw [a_cu_steepnessAt] at hm
  refine lv_ldc2 (pc := 0) (v := (3 : Int64)) hx hb hown (hB _ zw_152) d_cu_steepnessAt_0 ?_
  refine lv_lload_n (pc := 3) hx hb d_cu_steepnessAt_3 rfl (lv_at hl 1 rfl) ?_
  refine lv_lmul (pc := 4) hx hb d_cu_steepnessAt_4 ?_
  refine lv_ldc2 (pc := 5) (v := (2 : Int64)) hx hb hown (hB _ zw_153) d_cu_steepnessAt_5 ?_
  refine lv_aload_n (pc := 8) hx hb d_cu_steepnessAt_8 rfl (lv_at hl 0 rfl) ?_
  refine va_get (pc := 9) (D := D) (ci := 0) (v := .long sq) (C := "TorsionDesk$Cubic") (T := tX0) (N := 5) hx hb hB lX0 hown hK hP 0 rfl rfl 0 (by decide) (hB _ zw_28) (fun _ h9 => h9) rfl d_cu_steepnessAt_9 ?_
  refine lv_lmul (pc := 12) hx hb d_cu_steepnessAt_12 ?_
  refine lv_ladd (pc := 13) hx hb d_cu_steepnessAt_13 ?_
  refine lv_lload_n (pc := 14) hx hb d_cu_steepnessAt_14 rfl (lv_at hl 1 rfl) ?_
  refine lv_lmul (pc := 15) hx hb d_cu_steepnessAt_15 ?_
  refine lv_aload_n (pc := 16) hx hb d_cu_steepnessAt_16 rfl (lv_at hl 0 rfl) ?_
  refine va_get (pc := 17) (D := D) (ci := 0) (v := .long li) (C := "TorsionDesk$Cubic") (T := tX0) (N := 5) hx hb hB lX0 hown hK hP 0 rfl rfl 1 (by decide) (hB _ zw_30) (fun _ h9 => h9) rfl d_cu_steepnessAt_17 ?_
  refine lv_ladd (pc := 20) hx hb d_cu_steepnessAt_20 ?_
  subst hm
  rw [hQ]
  exact W.lret (pc := 21) hx hb hr (fun t ht _ => ⟨rfl, ht⟩) (fun _ h9 => nomatch h9) d_cu_steepnessAt_21
abbrev rm_cu_isGoodFor : Room := { frames := 0, cells := 0, slots := 0, locals := 0 }
def a_cu_isGoodFor (di : Int64) (i1 : Int32) : Option (Int32) := (if i1 ≤ 0 then (some (0 : Int32)) else (if i1.toInt64 = 0 then none else (if (di - di / i1.toInt64 * i1.toInt64) = (0 : Int64) then (some (0 : Int32)) else (some (1 : Int32)))))
set_option maxHeartbeats 4000000 in
set_option maxRecDepth 100000 in
theorem w_a_cu_isGoodFor (l : Launch) (D : va_G) (cI cJ : ClassId) (qu : Nat) (qr : Nat) (sq : Int64) (li : Int64) (co : Int64) (di : Int64) (rc : Nat → Int32) (i1 : Int32) (r0 : Int32) (hm : a_cu_isGoodFor di i1 = some r0) : Met l y_cu_isGoodFor zs_cu_isGoodFor rm_cu_isGoodFor (zPc [.ref qu, .int i1] D [(qu, .inr (0, [.long sq, .long li, .long co, .long di, .ref qr])), (qr, .inl (cI, 97, .inl rc))] [(cI, .int), (cJ, .long)]) (zRd (some (.int r0))) 0 0 (fun _ => False) := by
  refine zm (by decide) (Nat.le_of_ble_eq_true rfl) ?_
  intro p e s m args below meth c R Q hR hQ hargs hx hb hml hr hlocks hnm hB hown hP hK hD0 ls hl
  have hown : s.vm.findClass "TorsionDesk$Cubic" = some m.cls := hown
  have hl : lv_has ls 2 [(0, .ref qu), (1, .int i1)] := hl
  rw [a_cu_isGoodFor] at hm
  refine lv_iload_n (pc := 0) hx hb d_cu_isGoodFor_0 rfl (lv_at hl 1 rfl) ?_
  refine lv_if_le (pc := 1) (tgt := 20) hx hb d_cu_isGoodFor_1 rfl (fun h1 => ?_) (fun h1 => ?_)
  · rw [if_pos h1] at hm
    refine lv_iconst (pc := 20) (v := (0 : Int32)) hx hb d_cu_isGoodFor_20 (by decide) ?_
    cases hm
    rw [hQ]
    exact W.zret (pc := 21) hx hb hr rfl (fun t ht _ => ⟨rfl, ht⟩) (fun _ h9 => nomatch h9) d_cu_isGoodFor_21
  rw [if_neg h1] at hm
  refine lv_aload_n (pc := 4) hx hb d_cu_isGoodFor_4 rfl (lv_at hl 0 rfl) ?_
  refine va_get (pc := 5) (D := D) (ci := 0) (v := .long di) (C := "TorsionDesk$Cubic") (T := tX0) (N := 5) hx hb hB lX0 hown hK hP 0 rfl rfl 3 (by decide) (hB _ zw_33) (fun _ h9 => h9) rfl d_cu_isGoodFor_5 ?_
  refine lv_iload_n (pc := 8) hx hb d_cu_isGoodFor_8 rfl (lv_at hl 1 rfl) ?_
  refine lv_i2l (pc := 9) hx hb d_cu_isGoodFor_9 rfl ?_
  by_cases g2 : i1.toInt64 = 0
  · rw [if_pos g2] at hm; cases hm
  rw [if_neg g2] at hm
  refine lv_lrem (pc := 10) hx hb d_cu_isGoodFor_10 g2 ?_
  refine lv_lconst (pc := 11) (v := (0 : Int64)) hx hb d_cu_isGoodFor_11 (by decide) ?_
  refine zl_eq (pc := 12) (tgt := 20) hx hb d_cu_isGoodFor_12 d_cu_isGoodFor_13 rfl (fun h3 => ?_) (fun h3 => ?_)
  · rw [if_pos h3] at hm
    refine lv_iconst (pc := 20) (v := (0 : Int32)) hx hb d_cu_isGoodFor_20 (by decide) ?_
    cases hm
    rw [hQ]
    exact W.zret (pc := 21) hx hb hr rfl (fun t ht _ => ⟨rfl, ht⟩) (fun _ h9 => nomatch h9) d_cu_isGoodFor_21
  rw [if_neg h3] at hm
  refine lv_iconst (pc := 16) (v := (1 : Int32)) hx hb d_cu_isGoodFor_16 (by decide) ?_
  refine lv_goto (pc := 17) (tgt := 21) hx hb d_cu_isGoodFor_17 rfl ?_
  cases hm
  rw [hQ]
  exact W.zret (pc := 21) hx hb hr rfl (fun t ht _ => ⟨rfl, ht⟩) (fun _ h9 => nomatch h9) d_cu_isGoodFor_21
abbrev rm_cu_become : Room := { frames := 1, cells := 0, slots := 0, locals := 25 }
def a_cu_become (j1 : Int64) (j2 : Int64) (j3 : Int64) : Option (Int64 × Int64 × Int64 × Int64) := (some (j1, j2, j3, a_cu_discriminantOf j1 j2 j3))
set_option maxHeartbeats 4000000 in
set_option maxRecDepth 100000 in
theorem w_a_cu_become (l : Launch) (D : va_G) (cI cJ : ClassId) (qu : Nat) (qr : Nat) (sq : Int64) (li : Int64) (co : Int64) (di : Int64) (rc : Nat → Int32) (j1 : Int64) (j2 : Int64) (j3 : Int64) (r0 : Int64) (r1 : Int64) (r2 : Int64) (r3 : Int64) (hm : a_cu_become j1 j2 j3 = some (r0, r1, r2, r3)) : Met l y_cu_become zs_cu_become rm_cu_become (zPc [.ref qu, .long j1, .long j2, .long j3] D [(qu, .inr (0, [.long sq, .long li, .long co, .long di, .ref qr])), (qr, .inl (cI, 97, .inl rc))] [(cI, .int), (cJ, .long)]) (zWr none D (zIn [(qu, .inr (0, [.long sq, .long li, .long co, .long di, .ref qr])), (qr, .inl (cI, 97, .inl rc))]) [(qu, .inr (0, [.long r0, .long r1, .long r2, .long r3, .ref qr])), (qr, .inl (cI, 97, .inl rc))]) 0 0 (zIn [(qu, .inr (0, [.long sq, .long li, .long co, .long di, .ref qr])), (qr, .inl (cI, 97, .inl rc))]) := by
  refine zm (by decide) (Nat.le_of_ble_eq_true rfl) ?_
  intro p e s m args below meth c R Q hR hQ hargs hx hb hml hr hlocks hnm hB hown hP hK hD0 ls hl
  have hown : s.vm.findClass "TorsionDesk$Cubic" = some m.cls := hown
  have hl : lv_has ls 7 [(0, .ref qu), (1, .long j1), (3, .long j2), (5, .long j3)] := hl
  obtain ⟨A, hA⟩ : ∃ A, A = zIn [(qu, .inr (0, [.long sq, .long li, .long co, .long di, .ref qr])), (qr, .inl (cI, 97, .inl rc))] := ⟨_, rfl⟩
  have hD : va_D A [(qu, .inr (0, [.long sq, .long li, .long co, .long di, .ref qr])), (qr, .inl (cI, 97, .inl rc))] := by rw [hA]; exact zIn_self hD0
  have hS : va_S A s.heap s.heap [] := va_S.rf
  rw [← hA] at hQ
  rw [a_cu_become] at hm
  refine lv_aload_n (pc := 0) hx hb d_cu_become_0 rfl (lv_at hl 0 rfl) ?_
  refine lv_lload_n (pc := 1) hx hb d_cu_become_1 rfl (lv_at hl 1 rfl) ?_
  refine va_put (pc := 2) (D := D) (ci := 0) (v := .long j1) (ty := .long) (C := "TorsionDesk$Cubic") (T := tX0) (N := 5) hx hb hB lX0 yX0 yX0_ok nX0 hown hK hP hD hS 0 rfl rfl 0 (by decide) (hB _ zw_28) (fun _ h9 => h9) rfl (by decide +kernel) rfl rfl (Nat.le_of_ble_eq_true rfl) d_cu_become_2 (fun H locs hP hD hS => ?_)
  have hP : va_P D vwCl [(qu, .inr (0, [.long j1, .long li, .long co, .long di, .ref qr])), (qr, .inl (cI, 97, .inl rc))] H := hP
  have hD : va_D A [(qu, .inr (0, [.long j1, .long li, .long co, .long di, .ref qr])), (qr, .inl (cI, 97, .inl rc))] := hD
  refine lv_aload_n (pc := 5) hx hb d_cu_become_5 rfl (lv_at hl 0 rfl) ?_
  refine lv_lload_n (pc := 6) hx hb d_cu_become_6 rfl (lv_at hl 2 rfl) ?_
  refine va_put (pc := 7) (D := D) (ci := 0) (v := .long j2) (ty := .long) (C := "TorsionDesk$Cubic") (T := tX0) (N := 5) hx hb hB lX0 yX0 yX0_ok nX0 hown hK hP hD hS 0 rfl rfl 1 (by decide) (hB _ zw_30) (fun _ h9 => h9) rfl (by decide +kernel) rfl rfl (Nat.le_of_ble_eq_true rfl) d_cu_become_7 (fun H locs hP hD hS => ?_)
  have hP : va_P D vwCl [(qu, .inr (0, [.long j1, .long j2, .long co, .long di, .ref qr])), (qr, .inl (cI, 97, .inl rc))] H := hP
  have hD : va_D A [(qu, .inr (0, [.long j1, .long j2, .long co, .long di, .ref qr])), (qr, .inl (cI, 97, .inl rc))] := hD
  refine lv_aload_n (pc := 10) hx hb d_cu_become_10 rfl (lv_at hl 0 rfl) ?_
  refine lv_lload (pc := 11) hx hb d_cu_become_11 (lv_at hl 3 rfl) ?_
  refine va_put (pc := 13) (D := D) (ci := 0) (v := .long j3) (ty := .long) (C := "TorsionDesk$Cubic") (T := tX0) (N := 5) hx hb hB lX0 yX0 yX0_ok nX0 hown hK hP hD hS 0 rfl rfl 2 (by decide) (hB _ zw_31) (fun _ h9 => h9) rfl (by decide +kernel) rfl rfl (Nat.le_of_ble_eq_true rfl) d_cu_become_13 (fun H locs hP hD hS => ?_)
  have hP : va_P D vwCl [(qu, .inr (0, [.long j1, .long j2, .long j3, .long di, .ref qr])), (qr, .inl (cI, 97, .inl rc))] H := hP
  have hD : va_D A [(qu, .inr (0, [.long j1, .long j2, .long j3, .long di, .ref qr])), (qr, .inl (cI, 97, .inl rc))] := hD
  refine lv_aload_n (pc := 16) hx hb d_cu_become_16 rfl (lv_at hl 0 rfl) ?_
  refine lv_lload_n (pc := 17) hx hb d_cu_become_17 rfl (lv_at hl 1 rfl) ?_
  refine lv_lload_n (pc := 18) hx hb d_cu_become_18 rfl (lv_at hl 2 rfl) ?_
  refine lv_lload (pc := 19) hx hb d_cu_become_19 (lv_at hl 3 rfl) ?_
  refine zcS (pc := 21) (As := [.long j1, .long j2, .long j3]) (rest := [.ref qu]) ⟨hx, hb, hml, hown, hB⟩ (w_a_cu_discriminantOf l D cI cJ j1 j2 j3 _ rfl) (va_cwS 3 hB (zgS zw_336 zw_311 zw_2 zw_312) rfl rfl rfl (by decide +kernel) ⟨by rw [hR]; exact Nat.le_of_ble_eq_true rfl, by rw [hR]; exact Nat.le_of_ble_eq_true rfl⟩) hK (hP.sub (ws' := []) [] rfl) (hD0.sub (ws' := []) [] (by decide) rfl) rfl hl.1 rfl (Nat.le_of_ble_eq_true rfl) d_cu_become_21 ⟨Nat.zero_le _, Nat.zero_le _⟩ ?_
  refine va_put (pc := 24) (D := D) (ci := 0) (v := .long (a_cu_discriminantOf j1 j2 j3)) (ty := .long) (C := "TorsionDesk$Cubic") (T := tX0) (N := 5) hx hb hB lX0 yX0 yX0_ok nX0 hown hK hP hD hS 0 rfl rfl 3 (by decide) (hB _ zw_33) (fun _ h9 => h9) rfl (by decide +kernel) rfl rfl (Nat.le_of_ble_eq_true rfl) d_cu_become_24 (fun H locs hP hD hS => ?_)
  have hP : va_P D vwCl [(qu, .inr (0, [.long j1, .long j2, .long j3, .long (a_cu_discriminantOf j1 j2 j3), .ref qr])), (qr, .inl (cI, 97, .inl rc))] H := hP
  have hD : va_D A [(qu, .inr (0, [.long j1, .long j2, .long j3, .long (a_cu_discriminantOf j1 j2 j3), .ref qr])), (qr, .inl (cI, 97, .inl rc))] := hD
  cases hm
  rw [hQ]
  exact W.vret (pc := 27) hx hb hr (fun t ht _ => ⟨rfl, by rw [ht]; exact hP, hS.F ht⟩) hS.2.2 d_cu_become_27
abbrev rm_fp_has : Room := { frames := 0, cells := 0, slots := 0, locals := 0 }
def a_fp_has (fn : Int32) (i1 : Int32) : Int32 := (if i1 < 0 then (0 : Int32) else (if fn ≤ i1 then (0 : Int32) else (1 : Int32)))
set_option maxHeartbeats 4000000 in
set_option maxRecDepth 100000 in
theorem w_a_fp_has (l : Launch) (D : va_G) (cI cJ : ClassId) (qf : Nat) (qx : Nat) (qy : Nat) (qo : Nat) (fn : Int32) (xs : Nat → Int32) (ys : Nat → Int32) (os : Nat → Int32) (i1 : Int32) (r0 : Int32) (hm : a_fp_has fn i1 = r0) : Met l y_fp_has zs_fp_has rm_fp_has (zPc [.ref qf, .int i1] D [(qf, .inr (1, [.ref qx, .ref qy, .ref qo, .int fn])), (qx, .inl (cI, 32, .inl xs)), (qy, .inl (cI, 32, .inl ys)), (qo, .inl (cI, 32, .inl os))] [(cI, .int), (cJ, .long)]) (zRd (some (.int r0))) 0 0 (fun _ => False) := by
  refine zm (by decide) (Nat.le_of_ble_eq_true rfl) ?_
  intro p e s m args below meth c R Q hR hQ hargs hx hb hml hr hlocks hnm hB hown hP hK hD0 ls hl
  have hown : s.vm.findClass "TorsionDesk$FinitePoints" = some m.cls := hown
  have hl : lv_has ls 2 [(0, .ref qf), (1, .int i1)] := hl
  rw [a_fp_has] at hm
  refine lv_iload_n (pc := 0) hx hb d_fp_has_0 rfl (lv_at hl 1 rfl) ?_
  refine lv_if_lt (pc := 1) (tgt := 16) hx hb d_fp_has_1 rfl (fun h1 => ?_) (fun h1 => ?_)
  · rw [if_pos h1] at hm
    refine lv_iconst (pc := 16) (v := (0 : Int32)) hx hb d_fp_has_16 (by decide) ?_
    subst hm
    rw [hQ]
    exact W.zret (pc := 17) hx hb hr rfl (fun t ht _ => ⟨rfl, ht⟩) (fun _ h9 => nomatch h9) d_fp_has_17
  rw [if_neg h1] at hm
  refine lv_iload_n (pc := 4) hx hb d_fp_has_4 rfl (lv_at hl 1 rfl) ?_
  refine lv_aload_n (pc := 5) hx hb d_fp_has_5 rfl (lv_at hl 0 rfl) ?_
  refine va_get (pc := 6) (D := D) (ci := 1) (v := .int fn) (C := "TorsionDesk$FinitePoints") (T := tX1) (N := 4) hx hb hB lX1 hown hK hP 0 rfl rfl 3 (by decide) (hB _ zw_78) (fun _ h9 => h9) rfl d_fp_has_6 ?_
  refine lv_icmp_ge (pc := 9) (tgt := 16) hx hb d_fp_has_9 rfl (fun h2 => ?_) (fun h2 => ?_)
  · rw [if_pos h2] at hm
    refine lv_iconst (pc := 16) (v := (0 : Int32)) hx hb d_fp_has_16 (by decide) ?_
    subst hm
    rw [hQ]
    exact W.zret (pc := 17) hx hb hr rfl (fun t ht _ => ⟨rfl, ht⟩) (fun _ h9 => nomatch h9) d_fp_has_17
  rw [if_neg h2] at hm
  refine lv_iconst (pc := 12) (v := (1 : Int32)) hx hb d_fp_has_12 (by decide) ?_
  refine lv_goto (pc := 13) (tgt := 17) hx hb d_fp_has_13 rfl ?_
  subst hm
  rw [hQ]
  exact W.zret (pc := 17) hx hb hr rfl (fun t ht _ => ⟨rfl, ht⟩) (fun _ h9 => nomatch h9) d_fp_has_17
abbrev rm_fp_numberOf : Room := { frames := 0, cells := 0, slots := 0, locals := 0 }
def a_fp_numberOf_L3 (fn : Int32) (xs : Nat → Int32) (ys : Nat → Int32) (j1 : Int64) (j2 : Int64) : Nat → Int32 → Option (Int32)
  | 0, _ => none
  | n + 1, x5_3 => (if fn ≤ x5_3 then (some (-1 : Int32)) else (if (x5_3 < 0 ∨ 32 ≤ x5_3.toNatClampNeg) then none else (if ((xs x5_3.toNatClampNeg).toInt64) = j1 then (if ((ys x5_3.toNatClampNeg).toInt64) = j2 then (some x5_3) else a_fp_numberOf_L3 fn xs ys j1 j2 n (x5_3 + (1 : Int32))) else a_fp_numberOf_L3 fn xs ys j1 j2 n (x5_3 + (1 : Int32)))))
def a_fp_numberOf (N : Nat) (fn : Int32) (xs : Nat → Int32) (ys : Nat → Int32) (j1 : Int64) (j2 : Int64) : Option (Int32) := a_fp_numberOf_L3 fn xs ys j1 j2 N (1 : Int32)
set_option maxHeartbeats 4000000 in
set_option maxRecDepth 100000 in
theorem w_a_fp_numberOf (l : Launch) (D : va_G) (cI cJ : ClassId) (qf : Nat) (qx : Nat) (qy : Nat) (qo : Nat) (fn : Int32) (xs : Nat → Int32) (ys : Nat → Int32) (os : Nat → Int32) (j1 : Int64) (j2 : Int64) (N : Nat) (r0 : Int32) (hm : a_fp_numberOf N fn xs ys j1 j2 = some r0) : Met l y_fp_numberOf zs_fp_numberOf rm_fp_numberOf (zPc [.ref qf, .long j1, .long j2] D [(qf, .inr (1, [.ref qx, .ref qy, .ref qo, .int fn])), (qx, .inl (cI, 32, .inl xs)), (qy, .inl (cI, 32, .inl ys)), (qo, .inl (cI, 32, .inl os))] [(cI, .int), (cJ, .long)]) (zRd (some (.int r0))) 0 0 (fun _ => False) := by
  refine zm (by decide) (Nat.le_of_ble_eq_true rfl) ?_
  intro p e s m args below meth c R Q hR hQ hargs hx hb hml hr hlocks hnm hB hown hP hK hD0 ls hl
  have hown : s.vm.findClass "TorsionDesk$FinitePoints" = some m.cls := hown
  have hl : lv_has ls 6 [(0, .ref qf), (1, .long j1), (3, .long j2)] := hl
  have k3 : ∀ (n : Nat) (x5_3 : Int32) (ls : Array Slot), lv_has ls 6 [(0, .ref qf), (1, .long j1), (3, .long j2), (5, .int x5_3)] → a_fp_numberOf_L3 fn xs ys j1 j2 n x5_3 = some r0 → W p l e R s m args below meth c s.heap [] 0 0 Q (F0 m 3 ls []) := by
    intro n
    induction n with
    | zero => intro x5_3  ls hl hm; rw [a_fp_numberOf_L3] at hm; cases hm
    | succ n ih =>
      intro x5_3  ls hl hm
      rw [a_fp_numberOf_L3] at hm
      refine lv_iload (pc := 3) hx hb d_fp_numberOf_3 (lv_at hl 3 rfl) ?_
      refine lv_aload_n (pc := 5) hx hb d_fp_numberOf_5 rfl (lv_at hl 0 rfl) ?_
      refine va_get (pc := 6) (D := D) (ci := 1) (v := .int fn) (C := "TorsionDesk$FinitePoints") (T := tX1) (N := 4) hx hb hB lX1 hown hK hP 0 rfl rfl 3 (by decide) (hB _ zw_78) (fun _ h9 => h9) rfl d_fp_numberOf_6 ?_
      refine lv_icmp_ge (pc := 9) (tgt := 47) hx hb d_fp_numberOf_9 rfl (fun h1 => ?_) (fun h1 => ?_)
      · rw [if_pos h1] at hm
        refine lv_iconst (pc := 47) (v := (-1 : Int32)) hx hb d_fp_numberOf_47 (by decide) ?_
        cases hm
        rw [hQ]
        exact W.iret (pc := 48) hx hb hr (fun t ht _ => ⟨rfl, ht⟩) (fun _ h9 => nomatch h9) d_fp_numberOf_48
      rw [if_neg h1] at hm
      refine lv_aload_n (pc := 12) hx hb d_fp_numberOf_12 rfl (lv_at hl 0 rfl) ?_
      refine va_get (pc := 13) (D := D) (ci := 1) (v := .ref qx) (C := "TorsionDesk$FinitePoints") (T := tX1) (N := 4) hx hb hB lX1 hown hK hP 0 rfl rfl 0 (by decide) (hB _ zw_72) (fun _ h9 => h9) rfl d_fp_numberOf_13 ?_
      refine lv_iload (pc := 16) hx hb d_fp_numberOf_16 (lv_at hl 3 rfl) ?_
      by_cases g2 : (x5_3 < 0 ∨ 32 ≤ x5_3.toNatClampNeg)
      · rw [if_pos g2] at hm; cases hm
      rw [if_neg g2] at hm
      refine va_iald (pc := 18) hx hb hK hP 1 0 rfl rfl g2 d_fp_numberOf_18 ?_
      refine lv_i2l (pc := 19) hx hb d_fp_numberOf_19 rfl ?_
      refine lv_lload_n (pc := 20) hx hb d_fp_numberOf_20 rfl (lv_at hl 1 rfl) ?_
      refine zl_ne (pc := 21) (tgt := 41) hx hb d_fp_numberOf_21 d_fp_numberOf_22 rfl (fun h3 => ?_) (fun h3 => ?_)
      · rw [if_neg h3] at hm
        refine lv_iinc (pc := 41) (k := 3) (v := x5_3 + (1 : Int32)) (lv' := [(5, .int (x5_3 + (1 : Int32))), (0, .ref qf), (1, .long j1), (3, .long j2)]) hx hb d_fp_numberOf_41 hl rfl (congrArg (x5_3 + ·) (by decide)) (Nat.le_of_ble_eq_true rfl) rfl (fun ls hl => ?_)
        refine lv_goto (pc := 44) (tgt := 3) hx hb d_fp_numberOf_44 rfl ?_
        exact ih (x5_3 + (1 : Int32)) ls (lv_sub hl [1, 2, 3, 0] rfl) hm
      rw [if_pos h3] at hm
      refine lv_aload_n (pc := 25) hx hb d_fp_numberOf_25 rfl (lv_at hl 0 rfl) ?_
      refine va_get (pc := 26) (D := D) (ci := 1) (v := .ref qy) (C := "TorsionDesk$FinitePoints") (T := tX1) (N := 4) hx hb hB lX1 hown hK hP 0 rfl rfl 1 (by decide) (hB _ zw_74) (fun _ h9 => h9) rfl d_fp_numberOf_26 ?_
      refine lv_iload (pc := 29) hx hb d_fp_numberOf_29 (lv_at hl 3 rfl) ?_
      refine va_iald (pc := 31) hx hb hK hP 2 0 rfl rfl g2 d_fp_numberOf_31 ?_
      refine lv_i2l (pc := 32) hx hb d_fp_numberOf_32 rfl ?_
      refine lv_lload_n (pc := 33) hx hb d_fp_numberOf_33 rfl (lv_at hl 2 rfl) ?_
      refine zl_ne (pc := 34) (tgt := 41) hx hb d_fp_numberOf_34 d_fp_numberOf_35 rfl (fun h4 => ?_) (fun h4 => ?_)
      · rw [if_neg h4] at hm
        refine lv_iinc (pc := 41) (k := 3) (v := x5_3 + (1 : Int32)) (lv' := [(5, .int (x5_3 + (1 : Int32))), (0, .ref qf), (1, .long j1), (3, .long j2)]) hx hb d_fp_numberOf_41 hl rfl (congrArg (x5_3 + ·) (by decide)) (Nat.le_of_ble_eq_true rfl) rfl (fun ls hl => ?_)
        refine lv_goto (pc := 44) (tgt := 3) hx hb d_fp_numberOf_44 rfl ?_
        exact ih (x5_3 + (1 : Int32)) ls (lv_sub hl [1, 2, 3, 0] rfl) hm
      rw [if_pos h4] at hm
      refine lv_iload (pc := 38) hx hb d_fp_numberOf_38 (lv_at hl 3 rfl) ?_
      cases hm
      rw [hQ]
      exact W.iret (pc := 40) hx hb hr (fun t ht _ => ⟨rfl, ht⟩) (fun _ h9 => nomatch h9) d_fp_numberOf_40
  rw [a_fp_numberOf] at hm
  refine lv_iconst (pc := 0) (v := (1 : Int32)) hx hb d_fp_numberOf_0 (by decide) ?_
  refine lv_istore (pc := 1) (lv' := [(5, .int (1 : Int32)), (0, .ref qf), (1, .long j1), (3, .long j2)]) hx hb d_fp_numberOf_1 hl (Nat.le_of_ble_eq_true rfl) rfl (fun ls hl => ?_)
  exact k3 N (1 : Int32) ls (lv_sub hl [1, 2, 3, 0] rfl) hm
abbrev rm_fp_added : Room := { frames := 1, cells := 0, slots := 0, locals := 25 }
def a_fp_added (N : Nat) (fn : Int32) (xs : Nat → Int32) (ys : Nat → Int32) (sq : Int64) (li : Int64) (i2 : Int32) (i3 : Int32) : Option (Int32) := (if (a_fp_has fn i2) = 0 then (some (-1 : Int32)) else (if (a_fp_has fn i3) = 0 then (some (-1 : Int32)) else (if i2 = 0 then (some (i2 + i3)) else (if i3 = 0 then (some (i2 + i3)) else (if (i2 < 0 ∨ 32 ≤ i2.toNatClampNeg) then none else (if (i3 < 0 ∨ 32 ≤ i3.toNatClampNeg) then none else (if ((xs i3.toNatClampNeg).toInt64) = ((xs i2.toNatClampNeg).toInt64) then (if ((ys i3.toNatClampNeg).toInt64) = (-((ys i2.toNatClampNeg).toInt64)) then (some (0 : Int32)) else (if ((2 : Int64) * ((ys i2.toNatClampNeg).toInt64)) = (0 : Int64) then (some (-1 : Int32)) else (if ((2 : Int64) * ((ys i2.toNatClampNeg).toInt64)) = 0 then none else (if ((a_cu_steepnessAt sq li ((xs i2.toNatClampNeg).toInt64)) - (a_cu_steepnessAt sq li ((xs i2.toNatClampNeg).toInt64)) / ((2 : Int64) * ((ys i2.toNatClampNeg).toInt64)) * ((2 : Int64) * ((ys i2.toNatClampNeg).toInt64))) = (0 : Int64) then ((a_fp_numberOf N fn xs ys ((((((a_cu_steepnessAt sq li ((xs i2.toNatClampNeg).toInt64)) / ((2 : Int64) * ((ys i2.toNatClampNeg).toInt64))) * ((a_cu_steepnessAt sq li ((xs i2.toNatClampNeg).toInt64)) / ((2 : Int64) * ((ys i2.toNatClampNeg).toInt64)))) - sq) - ((xs i2.toNatClampNeg).toInt64)) - ((xs i3.toNatClampNeg).toInt64)) (-(((ys i2.toNatClampNeg).toInt64) + (((a_cu_steepnessAt sq li ((xs i2.toNatClampNeg).toInt64)) / ((2 : Int64) * ((ys i2.toNatClampNeg).toInt64))) * (((((((a_cu_steepnessAt sq li ((xs i2.toNatClampNeg).toInt64)) / ((2 : Int64) * ((ys i2.toNatClampNeg).toInt64))) * ((a_cu_steepnessAt sq li ((xs i2.toNatClampNeg).toInt64)) / ((2 : Int64) * ((ys i2.toNatClampNeg).toInt64)))) - sq) - ((xs i2.toNatClampNeg).toInt64)) - ((xs i3.toNatClampNeg).toInt64)) - ((xs i2.toNatClampNeg).toInt64)))))).bind (fun r_c205 => (some r_c205))) else (some (-1 : Int32)))))) else (if (((xs i3.toNatClampNeg).toInt64) - ((xs i2.toNatClampNeg).toInt64)) = (0 : Int64) then (some (-1 : Int32)) else (if (((xs i3.toNatClampNeg).toInt64) - ((xs i2.toNatClampNeg).toInt64)) = 0 then none else (if ((((ys i3.toNatClampNeg).toInt64) - ((ys i2.toNatClampNeg).toInt64)) - (((ys i3.toNatClampNeg).toInt64) - ((ys i2.toNatClampNeg).toInt64)) / (((xs i3.toNatClampNeg).toInt64) - ((xs i2.toNatClampNeg).toInt64)) * (((xs i3.toNatClampNeg).toInt64) - ((xs i2.toNatClampNeg).toInt64))) = (0 : Int64) then ((a_fp_numberOf N fn xs ys ((((((((ys i3.toNatClampNeg).toInt64) - ((ys i2.toNatClampNeg).toInt64)) / (((xs i3.toNatClampNeg).toInt64) - ((xs i2.toNatClampNeg).toInt64))) * ((((ys i3.toNatClampNeg).toInt64) - ((ys i2.toNatClampNeg).toInt64)) / (((xs i3.toNatClampNeg).toInt64) - ((xs i2.toNatClampNeg).toInt64)))) - sq) - ((xs i2.toNatClampNeg).toInt64)) - ((xs i3.toNatClampNeg).toInt64)) (-(((ys i2.toNatClampNeg).toInt64) + (((((ys i3.toNatClampNeg).toInt64) - ((ys i2.toNatClampNeg).toInt64)) / (((xs i3.toNatClampNeg).toInt64) - ((xs i2.toNatClampNeg).toInt64))) * (((((((((ys i3.toNatClampNeg).toInt64) - ((ys i2.toNatClampNeg).toInt64)) / (((xs i3.toNatClampNeg).toInt64) - ((xs i2.toNatClampNeg).toInt64))) * ((((ys i3.toNatClampNeg).toInt64) - ((ys i2.toNatClampNeg).toInt64)) / (((xs i3.toNatClampNeg).toInt64) - ((xs i2.toNatClampNeg).toInt64)))) - sq) - ((xs i2.toNatClampNeg).toInt64)) - ((xs i3.toNatClampNeg).toInt64)) - ((xs i2.toNatClampNeg).toInt64)))))).bind (fun r_c205 => (some r_c205))) else (some (-1 : Int32))))))))))))
set_option maxHeartbeats 4000000 in
set_option maxRecDepth 100000 in
theorem w_a_fp_added (l : Launch) (D : va_G) (cI cJ : ClassId) (qf : Nat) (qx : Nat) (qy : Nat) (qo : Nat) (fn : Int32) (xs : Nat → Int32) (ys : Nat → Int32) (os : Nat → Int32) (qu : Nat) (qr : Nat) (sq : Int64) (li : Int64) (co : Int64) (di : Int64) (rc : Nat → Int32) (i2 : Int32) (i3 : Int32) (N : Nat) (r0 : Int32) (hm : a_fp_added N fn xs ys sq li i2 i3 = some r0) : Met l y_fp_added zs_fp_added rm_fp_added (zPc [.ref qf, .ref qu, .int i2, .int i3] D [(qf, .inr (1, [.ref qx, .ref qy, .ref qo, .int fn])), (qx, .inl (cI, 32, .inl xs)), (qy, .inl (cI, 32, .inl ys)), (qo, .inl (cI, 32, .inl os)), (qu, .inr (0, [.long sq, .long li, .long co, .long di, .ref qr])), (qr, .inl (cI, 97, .inl rc))] [(cI, .int), (cJ, .long)]) (zRd (some (.int r0))) 0 0 (fun _ => False) := by
  refine zm (by decide) (Nat.le_of_ble_eq_true rfl) ?_
  intro p e s m args below meth c R Q hR hQ hargs hx hb hml hr hlocks hnm hB hown hP hK hD0 ls hl
  have hown : s.vm.findClass "TorsionDesk$FinitePoints" = some m.cls := hown
  have hl : lv_has ls 17 [(0, .ref qf), (1, .ref qu), (2, .int i2), (3, .int i3)] := hl
  rw [a_fp_added] at hm
  refine lv_aload_n (pc := 0) hx hb d_fp_added_0 rfl (lv_at hl 0 rfl) ?_
  refine lv_iload_n (pc := 1) hx hb d_fp_added_1 rfl (lv_at hl 2 rfl) ?_
  refine zcV (pc := 2) (As := [.int i2]) (rest := []) ⟨hx, hb, hml, hown, hB⟩ (w_a_fp_has l D cI cJ qf qx qy qo fn xs ys os i2 _ rfl) (cwV 1 hB (zgV zw_147 zw_125 zw_126 zw_4 zw_127) rfl rfl rfl (by decide +kernel) ⟨by rw [hR]; exact Nat.le_of_ble_eq_true rfl, by rw [hR]; exact Nat.le_of_ble_eq_true rfl⟩) hK (hP.sub (ws' := [(qf, .inr (1, [.ref qx, .ref qy, .ref qo, .int fn])), (qx, .inl (cI, 32, .inl xs)), (qy, .inl (cI, 32, .inl ys)), (qo, .inl (cI, 32, .inl os))]) [0, 1, 2, 3] rfl) (hD0.sub (ws' := [(qf, .inr (1, [.ref qx, .ref qy, .ref qo, .int fn])), (qx, .inl (cI, 32, .inl xs)), (qy, .inl (cI, 32, .inl ys)), (qo, .inl (cI, 32, .inl os))]) [0, 1, 2, 3] (by decide) rfl) rfl rfl rfl rfl hl.1 rfl (Nat.le_of_ble_eq_true rfl) d_fp_added_2 ⟨Nat.zero_le _, Nat.zero_le _⟩ ?_
  refine lv_if_eq (pc := 5) (tgt := 16) hx hb d_fp_added_5 rfl (fun h1 => ?_) (fun h1 => ?_)
  · rw [if_pos h1] at hm
    refine lv_iconst (pc := 16) (v := (-1 : Int32)) hx hb d_fp_added_16 (by decide) ?_
    cases hm
    rw [hQ]
    exact W.iret (pc := 17) hx hb hr (fun t ht _ => ⟨rfl, ht⟩) (fun _ h9 => nomatch h9) d_fp_added_17
  rw [if_neg h1] at hm
  refine lv_aload_n (pc := 8) hx hb d_fp_added_8 rfl (lv_at hl 0 rfl) ?_
  refine lv_iload_n (pc := 9) hx hb d_fp_added_9 rfl (lv_at hl 3 rfl) ?_
  refine zcV (pc := 10) (As := [.int i3]) (rest := []) ⟨hx, hb, hml, hown, hB⟩ (w_a_fp_has l D cI cJ qf qx qy qo fn xs ys os i3 _ rfl) (cwV 1 hB (zgV zw_147 zw_125 zw_126 zw_4 zw_127) rfl rfl rfl (by decide +kernel) ⟨by rw [hR]; exact Nat.le_of_ble_eq_true rfl, by rw [hR]; exact Nat.le_of_ble_eq_true rfl⟩) hK (hP.sub (ws' := [(qf, .inr (1, [.ref qx, .ref qy, .ref qo, .int fn])), (qx, .inl (cI, 32, .inl xs)), (qy, .inl (cI, 32, .inl ys)), (qo, .inl (cI, 32, .inl os))]) [0, 1, 2, 3] rfl) (hD0.sub (ws' := [(qf, .inr (1, [.ref qx, .ref qy, .ref qo, .int fn])), (qx, .inl (cI, 32, .inl xs)), (qy, .inl (cI, 32, .inl ys)), (qo, .inl (cI, 32, .inl os))]) [0, 1, 2, 3] (by decide) rfl) rfl rfl rfl rfl hl.1 rfl (Nat.le_of_ble_eq_true rfl) d_fp_added_10 ⟨Nat.zero_le _, Nat.zero_le _⟩ ?_
  refine lv_if_ne (pc := 13) (tgt := 18) hx hb d_fp_added_13 rfl (fun h2 => ?_) (fun h2 => ?_)
  · rw [if_neg h2] at hm
    refine lv_iload_n (pc := 18) hx hb d_fp_added_18 rfl (lv_at hl 2 rfl) ?_
    refine lv_if_eq (pc := 19) (tgt := 26) hx hb d_fp_added_19 rfl (fun h3 => ?_) (fun h3 => ?_)
    · rw [if_pos h3] at hm
      refine lv_iload_n (pc := 26) hx hb d_fp_added_26 rfl (lv_at hl 2 rfl) ?_
      refine lv_iload_n (pc := 27) hx hb d_fp_added_27 rfl (lv_at hl 3 rfl) ?_
      refine lv_iadd (pc := 28) hx hb d_fp_added_28 ?_
      cases hm
      rw [hQ]
      exact W.iret (pc := 29) hx hb hr (fun t ht _ => ⟨rfl, ht⟩) (fun _ h9 => nomatch h9) d_fp_added_29
    rw [if_neg h3] at hm
    refine lv_iload_n (pc := 22) hx hb d_fp_added_22 rfl (lv_at hl 3 rfl) ?_
    refine lv_if_ne (pc := 23) (tgt := 30) hx hb d_fp_added_23 rfl (fun h4 => ?_) (fun h4 => ?_)
    · rw [if_neg h4] at hm
      refine lv_aload_n (pc := 30) hx hb d_fp_added_30 rfl (lv_at hl 0 rfl) ?_
      refine va_get (pc := 31) (D := D) (ci := 1) (v := .ref qx) (C := "TorsionDesk$FinitePoints") (T := tX1) (N := 4) hx hb hB lX1 hown hK hP 0 rfl rfl 0 (by decide) (hB _ zw_72) (fun _ h9 => h9) rfl d_fp_added_31 ?_
      refine lv_iload_n (pc := 34) hx hb d_fp_added_34 rfl (lv_at hl 2 rfl) ?_
      by_cases g5 : (i2 < 0 ∨ 32 ≤ i2.toNatClampNeg)
      · rw [if_pos g5] at hm; cases hm
      rw [if_neg g5] at hm
      refine va_iald (pc := 35) hx hb hK hP 1 0 rfl rfl g5 d_fp_added_35 ?_
      refine lv_i2l (pc := 36) hx hb d_fp_added_36 rfl ?_
      refine lv_lstore (pc := 37) (lv' := [(4, .long ((xs i2.toNatClampNeg).toInt64)), (0, .ref qf), (1, .ref qu), (2, .int i2), (3, .int i3)]) hx hb d_fp_added_37 hl (Nat.le_of_ble_eq_true rfl) rfl (fun ls hl => ?_)
      refine lv_aload_n (pc := 39) hx hb d_fp_added_39 rfl (lv_at hl 1 rfl) ?_
      refine va_get (pc := 40) (D := D) (ci := 1) (v := .ref qy) (C := "TorsionDesk$FinitePoints") (T := tX1) (N := 4) hx hb hB lX1 hown hK hP 0 rfl rfl 1 (by decide) (hB _ zw_74) (fun _ h9 => h9) rfl d_fp_added_40 ?_
      refine lv_iload_n (pc := 43) hx hb d_fp_added_43 rfl (lv_at hl 3 rfl) ?_
      refine va_iald (pc := 44) hx hb hK hP 2 0 rfl rfl g5 d_fp_added_44 ?_
      refine lv_i2l (pc := 45) hx hb d_fp_added_45 rfl ?_
      refine lv_lstore (pc := 46) (lv' := [(6, .long ((ys i2.toNatClampNeg).toInt64)), (4, .long ((xs i2.toNatClampNeg).toInt64)), (0, .ref qf), (1, .ref qu), (2, .int i2), (3, .int i3)]) hx hb d_fp_added_46 hl (Nat.le_of_ble_eq_true rfl) rfl (fun ls hl => ?_)
      refine lv_aload_n (pc := 48) hx hb d_fp_added_48 rfl (lv_at hl 2 rfl) ?_
      refine va_get (pc := 49) (D := D) (ci := 1) (v := .ref qx) (C := "TorsionDesk$FinitePoints") (T := tX1) (N := 4) hx hb hB lX1 hown hK hP 0 rfl rfl 0 (by decide) (hB _ zw_72) (fun _ h9 => h9) rfl d_fp_added_49 ?_
      refine lv_iload_n (pc := 52) hx hb d_fp_added_52 rfl (lv_at hl 5 rfl) ?_
      by_cases g6 : (i3 < 0 ∨ 32 ≤ i3.toNatClampNeg)
      · rw [if_pos g6] at hm; cases hm
      rw [if_neg g6] at hm
      refine va_iald (pc := 53) hx hb hK hP 1 0 rfl rfl g6 d_fp_added_53 ?_
      refine lv_i2l (pc := 54) hx hb d_fp_added_54 rfl ?_
      refine lv_lload (pc := 55) hx hb d_fp_added_55 (lv_at hl 1 rfl) ?_
      refine zl_ne (pc := 57) (tgt := 65) hx hb d_fp_added_57 d_fp_added_58 rfl (fun h7 => ?_) (fun h7 => ?_)
      · rw [if_neg h7] at hm
        refine lv_iconst (pc := 65) (v := (0 : Int32)) hx hb d_fp_added_65 (by decide) ?_
        refine lv_istore (pc := 66) (lv' := [(8, .int (0 : Int32)), (6, .long ((ys i2.toNatClampNeg).toInt64)), (4, .long ((xs i2.toNatClampNeg).toInt64)), (0, .ref qf), (1, .ref qu), (2, .int i2), (3, .int i3)]) hx hb d_fp_added_66 hl (Nat.le_of_ble_eq_true rfl) rfl (fun ls hl => ?_)
        refine lv_iload (pc := 68) hx hb d_fp_added_68 (lv_at hl 0 rfl) ?_
        refine lv_if_eq (pc := 70) (tgt := 89) hx hb d_fp_added_70 rfl (fun _ => ?_) (fun h9 => absurd (by decide) h9)
        refine lv_iload (pc := 89) hx hb d_fp_added_89 (lv_at hl 0 rfl) ?_
        refine lv_if_eq (pc := 91) (tgt := 103) hx hb d_fp_added_91 rfl (fun _ => ?_) (fun h9 => absurd (by decide) h9)
        refine lv_aload_n (pc := 103) hx hb d_fp_added_103 rfl (lv_at hl 3 rfl) ?_
        refine va_get (pc := 104) (D := D) (ci := 1) (v := .ref qy) (C := "TorsionDesk$FinitePoints") (T := tX1) (N := 4) hx hb hB lX1 hown hK hP 0 rfl rfl 1 (by decide) (hB _ zw_74) (fun _ h9 => h9) rfl d_fp_added_104 ?_
        refine lv_iload_n (pc := 107) hx hb d_fp_added_107 rfl (lv_at hl 6 rfl) ?_
        refine va_iald (pc := 108) hx hb hK hP 2 0 rfl rfl g6 d_fp_added_108 ?_
        refine lv_i2l (pc := 109) hx hb d_fp_added_109 rfl ?_
        refine lv_lload (pc := 110) hx hb d_fp_added_110 (lv_at hl 1 rfl) ?_
        refine lv_lsub (pc := 112) hx hb d_fp_added_112 ?_
        refine lv_lstore (pc := 113) (lv' := [(9, .long (((ys i3.toNatClampNeg).toInt64) - ((ys i2.toNatClampNeg).toInt64))), (8, .int (0 : Int32)), (6, .long ((ys i2.toNatClampNeg).toInt64)), (4, .long ((xs i2.toNatClampNeg).toInt64)), (0, .ref qf), (1, .ref qu), (2, .int i2), (3, .int i3)]) hx hb d_fp_added_113 hl (Nat.le_of_ble_eq_true rfl) rfl (fun ls hl => ?_)
        refine lv_iload (pc := 115) hx hb d_fp_added_115 (lv_at hl 1 rfl) ?_
        refine lv_if_eq (pc := 117) (tgt := 129) hx hb d_fp_added_117 rfl (fun _ => ?_) (fun h9 => absurd (by decide) h9)
        refine lv_aload_n (pc := 129) hx hb d_fp_added_129 rfl (lv_at hl 4 rfl) ?_
        refine va_get (pc := 130) (D := D) (ci := 1) (v := .ref qx) (C := "TorsionDesk$FinitePoints") (T := tX1) (N := 4) hx hb hB lX1 hown hK hP 0 rfl rfl 0 (by decide) (hB _ zw_72) (fun _ h9 => h9) rfl d_fp_added_130 ?_
        refine lv_iload_n (pc := 133) hx hb d_fp_added_133 rfl (lv_at hl 7 rfl) ?_
        refine va_iald (pc := 134) hx hb hK hP 1 0 rfl rfl g6 d_fp_added_134 ?_
        refine lv_i2l (pc := 135) hx hb d_fp_added_135 rfl ?_
        refine lv_lload (pc := 136) hx hb d_fp_added_136 (lv_at hl 3 rfl) ?_
        refine lv_lsub (pc := 138) hx hb d_fp_added_138 ?_
        refine lv_lstore (pc := 139) (lv' := [(11, .long (((xs i3.toNatClampNeg).toInt64) - ((xs i2.toNatClampNeg).toInt64))), (9, .long (((ys i3.toNatClampNeg).toInt64) - ((ys i2.toNatClampNeg).toInt64))), (8, .int (0 : Int32)), (6, .long ((ys i2.toNatClampNeg).toInt64)), (4, .long ((xs i2.toNatClampNeg).toInt64)), (0, .ref qf), (1, .ref qu), (2, .int i2), (3, .int i3)]) hx hb d_fp_added_139 hl (Nat.le_of_ble_eq_true rfl) rfl (fun ls hl => ?_)
        refine lv_lload (pc := 141) hx hb d_fp_added_141 (lv_at hl 0 rfl) ?_
        refine lv_lconst (pc := 143) (v := (0 : Int64)) hx hb d_fp_added_143 (by decide) ?_
        refine zl_eq (pc := 144) (tgt := 158) hx hb d_fp_added_144 d_fp_added_145 rfl (fun h8 => ?_) (fun h8 => ?_)
        · rw [if_pos h8] at hm
          refine lv_iconst (pc := 158) (v := (-1 : Int32)) hx hb d_fp_added_158 (by decide) ?_
          cases hm
          rw [hQ]
          exact W.iret (pc := 159) hx hb hr (fun t ht _ => ⟨rfl, ht⟩) (fun _ h9 => nomatch h9) d_fp_added_159
        rw [if_neg h8] at hm
        refine lv_lload (pc := 148) hx hb d_fp_added_148 (lv_at hl 1 rfl) ?_
        refine lv_lload (pc := 150) hx hb d_fp_added_150 (lv_at hl 0 rfl) ?_
        by_cases g9 : (((xs i3.toNatClampNeg).toInt64) - ((xs i2.toNatClampNeg).toInt64)) = 0
        · rw [if_pos g9] at hm; cases hm
        rw [if_neg g9] at hm
        refine lv_lrem (pc := 152) hx hb d_fp_added_152 g9 ?_
        refine lv_lconst (pc := 153) (v := (0 : Int64)) hx hb d_fp_added_153 (by decide) ?_
        refine zl_eq (pc := 154) (tgt := 160) hx hb d_fp_added_154 d_fp_added_155 rfl (fun h10 => ?_) (fun h10 => ?_)
        · rw [if_pos h10] at hm
          refine lv_lload (pc := 160) hx hb d_fp_added_160 (lv_at hl 1 rfl) ?_
          refine lv_lload (pc := 162) hx hb d_fp_added_162 (lv_at hl 0 rfl) ?_
          refine lv_ldiv (pc := 164) hx hb d_fp_added_164 g9 ?_
          refine lv_lstore (pc := 165) (lv' := [(13, .long ((((ys i3.toNatClampNeg).toInt64) - ((ys i2.toNatClampNeg).toInt64)) / (((xs i3.toNatClampNeg).toInt64) - ((xs i2.toNatClampNeg).toInt64)))), (11, .long (((xs i3.toNatClampNeg).toInt64) - ((xs i2.toNatClampNeg).toInt64))), (9, .long (((ys i3.toNatClampNeg).toInt64) - ((ys i2.toNatClampNeg).toInt64))), (8, .int (0 : Int32)), (6, .long ((ys i2.toNatClampNeg).toInt64)), (4, .long ((xs i2.toNatClampNeg).toInt64)), (0, .ref qf), (1, .ref qu), (2, .int i2), (3, .int i3)]) hx hb d_fp_added_165 hl (Nat.le_of_ble_eq_true rfl) rfl (fun ls hl => ?_)
          refine lv_lload (pc := 167) hx hb d_fp_added_167 (lv_at hl 0 rfl) ?_
          refine lv_lload (pc := 169) hx hb d_fp_added_169 (lv_at hl 0 rfl) ?_
          refine lv_lmul (pc := 171) hx hb d_fp_added_171 ?_
          refine lv_aload_n (pc := 172) hx hb d_fp_added_172 rfl (lv_at hl 7 rfl) ?_
          refine va_get (pc := 173) (D := D) (ci := 0) (v := .long sq) (C := "TorsionDesk$Cubic") (T := tX0) (N := 5) hx hb hB lX0 hown hK hP 4 rfl rfl 0 (by decide) (hB _ zw_29) (fun _ h9 => h9) rfl d_fp_added_173 ?_
          refine lv_lsub (pc := 176) hx hb d_fp_added_176 ?_
          refine lv_lload (pc := 177) hx hb d_fp_added_177 (lv_at hl 5 rfl) ?_
          refine lv_lsub (pc := 179) hx hb d_fp_added_179 ?_
          refine lv_aload_n (pc := 180) hx hb d_fp_added_180 rfl (lv_at hl 6 rfl) ?_
          refine va_get (pc := 181) (D := D) (ci := 1) (v := .ref qx) (C := "TorsionDesk$FinitePoints") (T := tX1) (N := 4) hx hb hB lX1 hown hK hP 0 rfl rfl 0 (by decide) (hB _ zw_72) (fun _ h9 => h9) rfl d_fp_added_181 ?_
          refine lv_iload_n (pc := 184) hx hb d_fp_added_184 rfl (lv_at hl 9 rfl) ?_
          refine va_iald (pc := 185) hx hb hK hP 1 0 rfl rfl g6 d_fp_added_185 ?_
          refine lv_i2l (pc := 186) hx hb d_fp_added_186 rfl ?_
          refine lv_lsub (pc := 187) hx hb d_fp_added_187 ?_
          refine lv_lstore (pc := 188) (lv' := [(15, .long ((((((((ys i3.toNatClampNeg).toInt64) - ((ys i2.toNatClampNeg).toInt64)) / (((xs i3.toNatClampNeg).toInt64) - ((xs i2.toNatClampNeg).toInt64))) * ((((ys i3.toNatClampNeg).toInt64) - ((ys i2.toNatClampNeg).toInt64)) / (((xs i3.toNatClampNeg).toInt64) - ((xs i2.toNatClampNeg).toInt64)))) - sq) - ((xs i2.toNatClampNeg).toInt64)) - ((xs i3.toNatClampNeg).toInt64))), (13, .long ((((ys i3.toNatClampNeg).toInt64) - ((ys i2.toNatClampNeg).toInt64)) / (((xs i3.toNatClampNeg).toInt64) - ((xs i2.toNatClampNeg).toInt64)))), (11, .long (((xs i3.toNatClampNeg).toInt64) - ((xs i2.toNatClampNeg).toInt64))), (9, .long (((ys i3.toNatClampNeg).toInt64) - ((ys i2.toNatClampNeg).toInt64))), (8, .int (0 : Int32)), (6, .long ((ys i2.toNatClampNeg).toInt64)), (4, .long ((xs i2.toNatClampNeg).toInt64)), (0, .ref qf), (1, .ref qu), (2, .int i2), (3, .int i3)]) hx hb d_fp_added_188 hl (Nat.le_of_ble_eq_true rfl) rfl (fun ls hl => ?_)
          refine lv_aload_n (pc := 190) hx hb d_fp_added_190 rfl (lv_at hl 7 rfl) ?_
          refine lv_lload (pc := 191) hx hb d_fp_added_191 (lv_at hl 0 rfl) ?_
          refine lv_lload (pc := 193) hx hb d_fp_added_193 (lv_at hl 5 rfl) ?_
          refine lv_lload (pc := 195) hx hb d_fp_added_195 (lv_at hl 1 rfl) ?_
          refine lv_lload (pc := 197) hx hb d_fp_added_197 (lv_at hl 0 rfl) ?_
          refine lv_lload (pc := 199) hx hb d_fp_added_199 (lv_at hl 6 rfl) ?_
          refine lv_lsub (pc := 201) hx hb d_fp_added_201 ?_
          refine lv_lmul (pc := 202) hx hb d_fp_added_202 ?_
          refine lv_ladd (pc := 203) hx hb d_fp_added_203 ?_
          refine lv_lneg (pc := 204) hx hb d_fp_added_204 ?_
          obtain ⟨r_c205, c11, hm⟩ := zbind hm
          try dsimp only at hm
          refine zcV (pc := 205) (As := [.long ((((((((ys i3.toNatClampNeg).toInt64) - ((ys i2.toNatClampNeg).toInt64)) / (((xs i3.toNatClampNeg).toInt64) - ((xs i2.toNatClampNeg).toInt64))) * ((((ys i3.toNatClampNeg).toInt64) - ((ys i2.toNatClampNeg).toInt64)) / (((xs i3.toNatClampNeg).toInt64) - ((xs i2.toNatClampNeg).toInt64)))) - sq) - ((xs i2.toNatClampNeg).toInt64)) - ((xs i3.toNatClampNeg).toInt64)), .long (-(((ys i2.toNatClampNeg).toInt64) + (((((ys i3.toNatClampNeg).toInt64) - ((ys i2.toNatClampNeg).toInt64)) / (((xs i3.toNatClampNeg).toInt64) - ((xs i2.toNatClampNeg).toInt64))) * (((((((((ys i3.toNatClampNeg).toInt64) - ((ys i2.toNatClampNeg).toInt64)) / (((xs i3.toNatClampNeg).toInt64) - ((xs i2.toNatClampNeg).toInt64))) * ((((ys i3.toNatClampNeg).toInt64) - ((ys i2.toNatClampNeg).toInt64)) / (((xs i3.toNatClampNeg).toInt64) - ((xs i2.toNatClampNeg).toInt64)))) - sq) - ((xs i2.toNatClampNeg).toInt64)) - ((xs i3.toNatClampNeg).toInt64)) - ((xs i2.toNatClampNeg).toInt64)))))]) (rest := []) ⟨hx, hb, hml, hown, hB⟩ (w_a_fp_numberOf l D cI cJ qf qx qy qo fn xs ys os ((((((((ys i3.toNatClampNeg).toInt64) - ((ys i2.toNatClampNeg).toInt64)) / (((xs i3.toNatClampNeg).toInt64) - ((xs i2.toNatClampNeg).toInt64))) * ((((ys i3.toNatClampNeg).toInt64) - ((ys i2.toNatClampNeg).toInt64)) / (((xs i3.toNatClampNeg).toInt64) - ((xs i2.toNatClampNeg).toInt64)))) - sq) - ((xs i2.toNatClampNeg).toInt64)) - ((xs i3.toNatClampNeg).toInt64)) (-(((ys i2.toNatClampNeg).toInt64) + (((((ys i3.toNatClampNeg).toInt64) - ((ys i2.toNatClampNeg).toInt64)) / (((xs i3.toNatClampNeg).toInt64) - ((xs i2.toNatClampNeg).toInt64))) * (((((((((ys i3.toNatClampNeg).toInt64) - ((ys i2.toNatClampNeg).toInt64)) / (((xs i3.toNatClampNeg).toInt64) - ((xs i2.toNatClampNeg).toInt64))) * ((((ys i3.toNatClampNeg).toInt64) - ((ys i2.toNatClampNeg).toInt64)) / (((xs i3.toNatClampNeg).toInt64) - ((xs i2.toNatClampNeg).toInt64)))) - sq) - ((xs i2.toNatClampNeg).toInt64)) - ((xs i3.toNatClampNeg).toInt64)) - ((xs i2.toNatClampNeg).toInt64))))) N r_c205 c11) (cwV 2 hB (zgV zw_155 zw_136 zw_137 zw_4 zw_138) rfl rfl rfl (by decide +kernel) ⟨by rw [hR]; exact Nat.le_of_ble_eq_true rfl, by rw [hR]; exact Nat.le_of_ble_eq_true rfl⟩) hK (hP.sub (ws' := [(qf, .inr (1, [.ref qx, .ref qy, .ref qo, .int fn])), (qx, .inl (cI, 32, .inl xs)), (qy, .inl (cI, 32, .inl ys)), (qo, .inl (cI, 32, .inl os))]) [0, 1, 2, 3] rfl) (hD0.sub (ws' := [(qf, .inr (1, [.ref qx, .ref qy, .ref qo, .int fn])), (qx, .inl (cI, 32, .inl xs)), (qy, .inl (cI, 32, .inl ys)), (qo, .inl (cI, 32, .inl os))]) [0, 1, 2, 3] (by decide) rfl) rfl rfl rfl rfl hl.1 rfl (Nat.le_of_ble_eq_true rfl) d_fp_added_205 ⟨Nat.zero_le _, Nat.zero_le _⟩ ?_
          cases hm
          rw [hQ]
          exact W.iret (pc := 208) hx hb hr (fun t ht _ => ⟨rfl, ht⟩) (fun _ h9 => nomatch h9) d_fp_added_208
        rw [if_neg h10] at hm
        refine lv_iconst (pc := 158) (v := (-1 : Int32)) hx hb d_fp_added_158 (by decide) ?_
        cases hm
        rw [hQ]
        exact W.iret (pc := 159) hx hb hr (fun t ht _ => ⟨rfl, ht⟩) (fun _ h9 => nomatch h9) d_fp_added_159
      rw [if_pos h7] at hm
      refine lv_iconst (pc := 61) (v := (1 : Int32)) hx hb d_fp_added_61 (by decide) ?_
      refine lv_goto (pc := 62) (tgt := 66) hx hb d_fp_added_62 rfl ?_
      refine lv_istore (pc := 66) (lv' := [(8, .int (1 : Int32)), (6, .long ((ys i2.toNatClampNeg).toInt64)), (4, .long ((xs i2.toNatClampNeg).toInt64)), (0, .ref qf), (1, .ref qu), (2, .int i2), (3, .int i3)]) hx hb d_fp_added_66 hl (Nat.le_of_ble_eq_true rfl) rfl (fun ls hl => ?_)
      refine lv_iload (pc := 68) hx hb d_fp_added_68 (lv_at hl 0 rfl) ?_
      refine lv_if_eq (pc := 70) (tgt := 89) hx hb d_fp_added_70 rfl (fun h9 => absurd h9 (by decide)) (fun _ => ?_)
      refine lv_aload_n (pc := 73) hx hb d_fp_added_73 rfl (lv_at hl 3 rfl) ?_
      refine va_get (pc := 74) (D := D) (ci := 1) (v := .ref qy) (C := "TorsionDesk$FinitePoints") (T := tX1) (N := 4) hx hb hB lX1 hown hK hP 0 rfl rfl 1 (by decide) (hB _ zw_74) (fun _ h9 => h9) rfl d_fp_added_74 ?_
      refine lv_iload_n (pc := 77) hx hb d_fp_added_77 rfl (lv_at hl 6 rfl) ?_
      refine va_iald (pc := 78) hx hb hK hP 2 0 rfl rfl g6 d_fp_added_78 ?_
      refine lv_i2l (pc := 79) hx hb d_fp_added_79 rfl ?_
      refine lv_lload (pc := 80) hx hb d_fp_added_80 (lv_at hl 1 rfl) ?_
      refine lv_lneg (pc := 82) hx hb d_fp_added_82 ?_
      refine zl_ne (pc := 83) (tgt := 89) hx hb d_fp_added_83 d_fp_added_84 rfl (fun h12 => ?_) (fun h12 => ?_)
      · rw [if_neg h12] at hm
        refine lv_iload (pc := 89) hx hb d_fp_added_89 (lv_at hl 0 rfl) ?_
        refine lv_if_eq (pc := 91) (tgt := 103) hx hb d_fp_added_91 rfl (fun h9 => absurd h9 (by decide)) (fun _ => ?_)
        refine lv_aload_n (pc := 94) hx hb d_fp_added_94 rfl (lv_at hl 4 rfl) ?_
        refine lv_lload (pc := 95) hx hb d_fp_added_95 (lv_at hl 2 rfl) ?_
        refine zcV (pc := 97) (As := [.long ((xs i2.toNatClampNeg).toInt64)]) (rest := []) ⟨hx, hb, hml, hown, hB⟩ (w_a_cu_steepnessAt l D cI cJ qu qr sq li co di rc ((xs i2.toNatClampNeg).toInt64) _ rfl) (cwV 1 hB (zgV zw_148 zw_149 zw_150 zw_2 zw_151) rfl rfl rfl (by decide +kernel) ⟨by rw [hR]; exact Nat.le_of_ble_eq_true rfl, by rw [hR]; exact Nat.le_of_ble_eq_true rfl⟩) hK (hP.sub (ws' := [(qu, .inr (0, [.long sq, .long li, .long co, .long di, .ref qr])), (qr, .inl (cI, 97, .inl rc))]) [4, 5] rfl) (hD0.sub (ws' := [(qu, .inr (0, [.long sq, .long li, .long co, .long di, .ref qr])), (qr, .inl (cI, 97, .inl rc))]) [4, 5] (by decide) rfl) rfl rfl rfl rfl hl.1 rfl (Nat.le_of_ble_eq_true rfl) d_fp_added_97 ⟨Nat.zero_le _, Nat.zero_le _⟩ ?_
        refine lv_goto (pc := 100) (tgt := 113) hx hb d_fp_added_100 rfl ?_
        refine lv_lstore (pc := 113) (lv' := [(9, .long (a_cu_steepnessAt sq li ((xs i2.toNatClampNeg).toInt64))), (8, .int (1 : Int32)), (6, .long ((ys i2.toNatClampNeg).toInt64)), (4, .long ((xs i2.toNatClampNeg).toInt64)), (0, .ref qf), (1, .ref qu), (2, .int i2), (3, .int i3)]) hx hb d_fp_added_113 hl (Nat.le_of_ble_eq_true rfl) rfl (fun ls hl => ?_)
        refine lv_iload (pc := 115) hx hb d_fp_added_115 (lv_at hl 1 rfl) ?_
        refine lv_if_eq (pc := 117) (tgt := 129) hx hb d_fp_added_117 rfl (fun h9 => absurd h9 (by decide)) (fun _ => ?_)
        refine lv_ldc2 (pc := 120) (v := (2 : Int64)) hx hb hown (hB _ zw_154) d_fp_added_120 ?_
        refine lv_lload (pc := 123) hx hb d_fp_added_123 (lv_at hl 2 rfl) ?_
        refine lv_lmul (pc := 125) hx hb d_fp_added_125 ?_
        refine lv_goto (pc := 126) (tgt := 139) hx hb d_fp_added_126 rfl ?_
        refine lv_lstore (pc := 139) (lv' := [(11, .long ((2 : Int64) * ((ys i2.toNatClampNeg).toInt64))), (9, .long (a_cu_steepnessAt sq li ((xs i2.toNatClampNeg).toInt64))), (8, .int (1 : Int32)), (6, .long ((ys i2.toNatClampNeg).toInt64)), (4, .long ((xs i2.toNatClampNeg).toInt64)), (0, .ref qf), (1, .ref qu), (2, .int i2), (3, .int i3)]) hx hb d_fp_added_139 hl (Nat.le_of_ble_eq_true rfl) rfl (fun ls hl => ?_)
        refine lv_lload (pc := 141) hx hb d_fp_added_141 (lv_at hl 0 rfl) ?_
        refine lv_lconst (pc := 143) (v := (0 : Int64)) hx hb d_fp_added_143 (by decide) ?_
        refine zl_eq (pc := 144) (tgt := 158) hx hb d_fp_added_144 d_fp_added_145 rfl (fun h13 => ?_) (fun h13 => ?_)
        · rw [if_pos h13] at hm
          refine lv_iconst (pc := 158) (v := (-1 : Int32)) hx hb d_fp_added_158 (by decide) ?_
          cases hm
          rw [hQ]
          exact W.iret (pc := 159) hx hb hr (fun t ht _ => ⟨rfl, ht⟩) (fun _ h9 => nomatch h9) d_fp_added_159
        rw [if_neg h13] at hm
        refine lv_lload (pc := 148) hx hb d_fp_added_148 (lv_at hl 1 rfl) ?_
        refine lv_lload (pc := 150) hx hb d_fp_added_150 (lv_at hl 0 rfl) ?_
        by_cases g14 : ((2 : Int64) * ((ys i2.toNatClampNeg).toInt64)) = 0
        · rw [if_pos g14] at hm; cases hm
        rw [if_neg g14] at hm
        refine lv_lrem (pc := 152) hx hb d_fp_added_152 g14 ?_
        refine lv_lconst (pc := 153) (v := (0 : Int64)) hx hb d_fp_added_153 (by decide) ?_
        refine zl_eq (pc := 154) (tgt := 160) hx hb d_fp_added_154 d_fp_added_155 rfl (fun h15 => ?_) (fun h15 => ?_)
        · rw [if_pos h15] at hm
          refine lv_lload (pc := 160) hx hb d_fp_added_160 (lv_at hl 1 rfl) ?_
          refine lv_lload (pc := 162) hx hb d_fp_added_162 (lv_at hl 0 rfl) ?_
          refine lv_ldiv (pc := 164) hx hb d_fp_added_164 g14 ?_
          refine lv_lstore (pc := 165) (lv' := [(13, .long ((a_cu_steepnessAt sq li ((xs i2.toNatClampNeg).toInt64)) / ((2 : Int64) * ((ys i2.toNatClampNeg).toInt64)))), (11, .long ((2 : Int64) * ((ys i2.toNatClampNeg).toInt64))), (9, .long (a_cu_steepnessAt sq li ((xs i2.toNatClampNeg).toInt64))), (8, .int (1 : Int32)), (6, .long ((ys i2.toNatClampNeg).toInt64)), (4, .long ((xs i2.toNatClampNeg).toInt64)), (0, .ref qf), (1, .ref qu), (2, .int i2), (3, .int i3)]) hx hb d_fp_added_165 hl (Nat.le_of_ble_eq_true rfl) rfl (fun ls hl => ?_)
          refine lv_lload (pc := 167) hx hb d_fp_added_167 (lv_at hl 0 rfl) ?_
          refine lv_lload (pc := 169) hx hb d_fp_added_169 (lv_at hl 0 rfl) ?_
          refine lv_lmul (pc := 171) hx hb d_fp_added_171 ?_
          refine lv_aload_n (pc := 172) hx hb d_fp_added_172 rfl (lv_at hl 7 rfl) ?_
          refine va_get (pc := 173) (D := D) (ci := 0) (v := .long sq) (C := "TorsionDesk$Cubic") (T := tX0) (N := 5) hx hb hB lX0 hown hK hP 4 rfl rfl 0 (by decide) (hB _ zw_29) (fun _ h9 => h9) rfl d_fp_added_173 ?_
          refine lv_lsub (pc := 176) hx hb d_fp_added_176 ?_
          refine lv_lload (pc := 177) hx hb d_fp_added_177 (lv_at hl 5 rfl) ?_
          refine lv_lsub (pc := 179) hx hb d_fp_added_179 ?_
          refine lv_aload_n (pc := 180) hx hb d_fp_added_180 rfl (lv_at hl 6 rfl) ?_
          refine va_get (pc := 181) (D := D) (ci := 1) (v := .ref qx) (C := "TorsionDesk$FinitePoints") (T := tX1) (N := 4) hx hb hB lX1 hown hK hP 0 rfl rfl 0 (by decide) (hB _ zw_72) (fun _ h9 => h9) rfl d_fp_added_181 ?_
          refine lv_iload_n (pc := 184) hx hb d_fp_added_184 rfl (lv_at hl 9 rfl) ?_
          refine va_iald (pc := 185) hx hb hK hP 1 0 rfl rfl g6 d_fp_added_185 ?_
          refine lv_i2l (pc := 186) hx hb d_fp_added_186 rfl ?_
          refine lv_lsub (pc := 187) hx hb d_fp_added_187 ?_
          refine lv_lstore (pc := 188) (lv' := [(15, .long ((((((a_cu_steepnessAt sq li ((xs i2.toNatClampNeg).toInt64)) / ((2 : Int64) * ((ys i2.toNatClampNeg).toInt64))) * ((a_cu_steepnessAt sq li ((xs i2.toNatClampNeg).toInt64)) / ((2 : Int64) * ((ys i2.toNatClampNeg).toInt64)))) - sq) - ((xs i2.toNatClampNeg).toInt64)) - ((xs i3.toNatClampNeg).toInt64))), (13, .long ((a_cu_steepnessAt sq li ((xs i2.toNatClampNeg).toInt64)) / ((2 : Int64) * ((ys i2.toNatClampNeg).toInt64)))), (11, .long ((2 : Int64) * ((ys i2.toNatClampNeg).toInt64))), (9, .long (a_cu_steepnessAt sq li ((xs i2.toNatClampNeg).toInt64))), (8, .int (1 : Int32)), (6, .long ((ys i2.toNatClampNeg).toInt64)), (4, .long ((xs i2.toNatClampNeg).toInt64)), (0, .ref qf), (1, .ref qu), (2, .int i2), (3, .int i3)]) hx hb d_fp_added_188 hl (Nat.le_of_ble_eq_true rfl) rfl (fun ls hl => ?_)
          refine lv_aload_n (pc := 190) hx hb d_fp_added_190 rfl (lv_at hl 7 rfl) ?_
          refine lv_lload (pc := 191) hx hb d_fp_added_191 (lv_at hl 0 rfl) ?_
          refine lv_lload (pc := 193) hx hb d_fp_added_193 (lv_at hl 5 rfl) ?_
          refine lv_lload (pc := 195) hx hb d_fp_added_195 (lv_at hl 1 rfl) ?_
          refine lv_lload (pc := 197) hx hb d_fp_added_197 (lv_at hl 0 rfl) ?_
          refine lv_lload (pc := 199) hx hb d_fp_added_199 (lv_at hl 6 rfl) ?_
          refine lv_lsub (pc := 201) hx hb d_fp_added_201 ?_
          refine lv_lmul (pc := 202) hx hb d_fp_added_202 ?_
          refine lv_ladd (pc := 203) hx hb d_fp_added_203 ?_
          refine lv_lneg (pc := 204) hx hb d_fp_added_204 ?_
          obtain ⟨r_c205, c16, hm⟩ := zbind hm
          try dsimp only at hm
          refine zcV (pc := 205) (As := [.long ((((((a_cu_steepnessAt sq li ((xs i2.toNatClampNeg).toInt64)) / ((2 : Int64) * ((ys i2.toNatClampNeg).toInt64))) * ((a_cu_steepnessAt sq li ((xs i2.toNatClampNeg).toInt64)) / ((2 : Int64) * ((ys i2.toNatClampNeg).toInt64)))) - sq) - ((xs i2.toNatClampNeg).toInt64)) - ((xs i3.toNatClampNeg).toInt64)), .long (-(((ys i2.toNatClampNeg).toInt64) + (((a_cu_steepnessAt sq li ((xs i2.toNatClampNeg).toInt64)) / ((2 : Int64) * ((ys i2.toNatClampNeg).toInt64))) * (((((((a_cu_steepnessAt sq li ((xs i2.toNatClampNeg).toInt64)) / ((2 : Int64) * ((ys i2.toNatClampNeg).toInt64))) * ((a_cu_steepnessAt sq li ((xs i2.toNatClampNeg).toInt64)) / ((2 : Int64) * ((ys i2.toNatClampNeg).toInt64)))) - sq) - ((xs i2.toNatClampNeg).toInt64)) - ((xs i3.toNatClampNeg).toInt64)) - ((xs i2.toNatClampNeg).toInt64)))))]) (rest := []) ⟨hx, hb, hml, hown, hB⟩ (w_a_fp_numberOf l D cI cJ qf qx qy qo fn xs ys os ((((((a_cu_steepnessAt sq li ((xs i2.toNatClampNeg).toInt64)) / ((2 : Int64) * ((ys i2.toNatClampNeg).toInt64))) * ((a_cu_steepnessAt sq li ((xs i2.toNatClampNeg).toInt64)) / ((2 : Int64) * ((ys i2.toNatClampNeg).toInt64)))) - sq) - ((xs i2.toNatClampNeg).toInt64)) - ((xs i3.toNatClampNeg).toInt64)) (-(((ys i2.toNatClampNeg).toInt64) + (((a_cu_steepnessAt sq li ((xs i2.toNatClampNeg).toInt64)) / ((2 : Int64) * ((ys i2.toNatClampNeg).toInt64))) * (((((((a_cu_steepnessAt sq li ((xs i2.toNatClampNeg).toInt64)) / ((2 : Int64) * ((ys i2.toNatClampNeg).toInt64))) * ((a_cu_steepnessAt sq li ((xs i2.toNatClampNeg).toInt64)) / ((2 : Int64) * ((ys i2.toNatClampNeg).toInt64)))) - sq) - ((xs i2.toNatClampNeg).toInt64)) - ((xs i3.toNatClampNeg).toInt64)) - ((xs i2.toNatClampNeg).toInt64))))) N r_c205 c16) (cwV 2 hB (zgV zw_155 zw_136 zw_137 zw_4 zw_138) rfl rfl rfl (by decide +kernel) ⟨by rw [hR]; exact Nat.le_of_ble_eq_true rfl, by rw [hR]; exact Nat.le_of_ble_eq_true rfl⟩) hK (hP.sub (ws' := [(qf, .inr (1, [.ref qx, .ref qy, .ref qo, .int fn])), (qx, .inl (cI, 32, .inl xs)), (qy, .inl (cI, 32, .inl ys)), (qo, .inl (cI, 32, .inl os))]) [0, 1, 2, 3] rfl) (hD0.sub (ws' := [(qf, .inr (1, [.ref qx, .ref qy, .ref qo, .int fn])), (qx, .inl (cI, 32, .inl xs)), (qy, .inl (cI, 32, .inl ys)), (qo, .inl (cI, 32, .inl os))]) [0, 1, 2, 3] (by decide) rfl) rfl rfl rfl rfl hl.1 rfl (Nat.le_of_ble_eq_true rfl) d_fp_added_205 ⟨Nat.zero_le _, Nat.zero_le _⟩ ?_
          cases hm
          rw [hQ]
          exact W.iret (pc := 208) hx hb hr (fun t ht _ => ⟨rfl, ht⟩) (fun _ h9 => nomatch h9) d_fp_added_208
        rw [if_neg h15] at hm
        refine lv_iconst (pc := 158) (v := (-1 : Int32)) hx hb d_fp_added_158 (by decide) ?_
        cases hm
        rw [hQ]
        exact W.iret (pc := 159) hx hb hr (fun t ht _ => ⟨rfl, ht⟩) (fun _ h9 => nomatch h9) d_fp_added_159
      rw [if_pos h12] at hm
      refine lv_iconst (pc := 87) (v := (0 : Int32)) hx hb d_fp_added_87 (by decide) ?_
      cases hm
      rw [hQ]
      exact W.iret (pc := 88) hx hb hr (fun t ht _ => ⟨rfl, ht⟩) (fun _ h9 => nomatch h9) d_fp_added_88
    rw [if_pos h4] at hm
    refine lv_iload_n (pc := 26) hx hb d_fp_added_26 rfl (lv_at hl 2 rfl) ?_
    refine lv_iload_n (pc := 27) hx hb d_fp_added_27 rfl (lv_at hl 3 rfl) ?_
    refine lv_iadd (pc := 28) hx hb d_fp_added_28 ?_
    cases hm
    rw [hQ]
    exact W.iret (pc := 29) hx hb hr (fun t ht _ => ⟨rfl, ht⟩) (fun _ h9 => nomatch h9) d_fp_added_29
  rw [if_pos h2] at hm
  refine lv_iconst (pc := 16) (v := (-1 : Int32)) hx hb d_fp_added_16 (by decide) ?_
  cases hm
  rw [hQ]
  exact W.iret (pc := 17) hx hb hr (fun t ht _ => ⟨rfl, ht⟩) (fun _ h9 => nomatch h9) d_fp_added_17
abbrev rm_fp_append : Room := { frames := 0, cells := 0, slots := 0, locals := 0 }
def a_fp_append (fn : Int32) (xs : Nat → Int32) (ys : Nat → Int32) (i1 : Int32) (i2 : Int32) : Option ((Nat → Int32) × (Nat → Int32) × Int32) := (if (32 : Int32) ≤ fn then (some (xs, ys, fn)) else (if (fn < 0 ∨ 32 ≤ fn.toNatClampNeg) then none else (some (upd xs fn.toNatClampNeg i1, upd ys fn.toNatClampNeg i2, fn + (1 : Int32)))))
set_option maxHeartbeats 4000000 in
set_option maxRecDepth 100000 in
theorem w_a_fp_append (l : Launch) (D : va_G) (cI cJ : ClassId) (qf : Nat) (qx : Nat) (qy : Nat) (qo : Nat) (fn : Int32) (xs : Nat → Int32) (ys : Nat → Int32) (os : Nat → Int32) (i1 : Int32) (i2 : Int32) (r0 : Nat → Int32) (r1 : Nat → Int32) (r2 : Int32) (hm : a_fp_append fn xs ys i1 i2 = some (r0, r1, r2)) : Met l y_fp_append zs_fp_append rm_fp_append (zPc [.ref qf, .int i1, .int i2] D [(qf, .inr (1, [.ref qx, .ref qy, .ref qo, .int fn])), (qx, .inl (cI, 32, .inl xs)), (qy, .inl (cI, 32, .inl ys)), (qo, .inl (cI, 32, .inl os))] [(cI, .int), (cJ, .long)]) (zWr none D (zIn [(qf, .inr (1, [.ref qx, .ref qy, .ref qo, .int fn])), (qx, .inl (cI, 32, .inl xs)), (qy, .inl (cI, 32, .inl ys)), (qo, .inl (cI, 32, .inl os))]) [(qf, .inr (1, [.ref qx, .ref qy, .ref qo, .int r2])), (qx, .inl (cI, 32, .inl r0)), (qy, .inl (cI, 32, .inl r1)), (qo, .inl (cI, 32, .inl os))]) 0 0 (zIn [(qf, .inr (1, [.ref qx, .ref qy, .ref qo, .int fn])), (qx, .inl (cI, 32, .inl xs)), (qy, .inl (cI, 32, .inl ys)), (qo, .inl (cI, 32, .inl os))]) := by
  refine zm (by decide) (Nat.le_of_ble_eq_true rfl) ?_
  intro p e s m args below meth c R Q hR hQ hargs hx hb hml hr hlocks hnm hB hown hP hK hD0 ls hl
  have hown : s.vm.findClass "TorsionDesk$FinitePoints" = some m.cls := hown
  have hl : lv_has ls 3 [(0, .ref qf), (1, .int i1), (2, .int i2)] := hl
  obtain ⟨A, hA⟩ : ∃ A, A = zIn [(qf, .inr (1, [.ref qx, .ref qy, .ref qo, .int fn])), (qx, .inl (cI, 32, .inl xs)), (qy, .inl (cI, 32, .inl ys)), (qo, .inl (cI, 32, .inl os))] := ⟨_, rfl⟩
  have hD : va_D A [(qf, .inr (1, [.ref qx, .ref qy, .ref qo, .int fn])), (qx, .inl (cI, 32, .inl xs)), (qy, .inl (cI, 32, .inl ys)), (qo, .inl (cI, 32, .inl os))] := by rw [hA]; exact zIn_self hD0
  have hS : va_S A s.heap s.heap [] := va_S.rf
  rw [← hA] at hQ
  rw [a_fp_append] at hm
  refine lv_aload_n (pc := 0) hx hb d_fp_append_0 rfl (lv_at hl 0 rfl) ?_
  refine va_get (pc := 1) (D := D) (ci := 1) (v := .int fn) (C := "TorsionDesk$FinitePoints") (T := tX1) (N := 4) hx hb hB lX1 hown hK hP 0 rfl rfl 3 (by decide) (hB _ zw_78) (fun _ h9 => h9) rfl d_fp_append_1 ?_
  refine lv_bipush (pc := 4) (v := (32 : Int32)) hx hb d_fp_append_4 (by decide) ?_
  refine lv_icmp_ge (pc := 6) (tgt := 39) hx hb d_fp_append_6 rfl (fun h1 => ?_) (fun h1 => ?_)
  · rw [if_pos h1] at hm
    cases hm
    rw [hQ]
    exact W.vret (pc := 39) hx hb hr (fun t ht _ => ⟨rfl, by rw [ht]; exact hP, hS.F ht⟩) hS.2.2 d_fp_append_39
  rw [if_neg h1] at hm
  refine lv_aload_n (pc := 9) hx hb d_fp_append_9 rfl (lv_at hl 0 rfl) ?_
  refine va_get (pc := 10) (D := D) (ci := 1) (v := .ref qx) (C := "TorsionDesk$FinitePoints") (T := tX1) (N := 4) hx hb hB lX1 hown hK hP 0 rfl rfl 0 (by decide) (hB _ zw_72) (fun _ h9 => h9) rfl d_fp_append_10 ?_
  refine lv_aload_n (pc := 13) hx hb d_fp_append_13 rfl (lv_at hl 0 rfl) ?_
  refine va_get (pc := 14) (D := D) (ci := 1) (v := .int fn) (C := "TorsionDesk$FinitePoints") (T := tX1) (N := 4) hx hb hB lX1 hown hK hP 0 rfl rfl 3 (by decide) (hB _ zw_78) (fun _ h9 => h9) rfl d_fp_append_14 ?_
  refine lv_iload_n (pc := 17) hx hb d_fp_append_17 rfl (lv_at hl 1 rfl) ?_
  by_cases g2 : (fn < 0 ∨ 32 ≤ fn.toNatClampNeg)
  · rw [if_pos g2] at hm; cases hm
  rw [if_neg g2] at hm
  refine va_iast (pc := 18) hx hb hK hP hD hS 1 0 rfl rfl g2 d_fp_append_18 (fun H locs hP hD hS => ?_)
  have hP : va_P D vwCl [(qf, .inr (1, [.ref qx, .ref qy, .ref qo, .int fn])), (qx, .inl (cI, 32, .inl (upd xs fn.toNatClampNeg i1))), (qy, .inl (cI, 32, .inl ys)), (qo, .inl (cI, 32, .inl os))] H := hP
  have hD : va_D A [(qf, .inr (1, [.ref qx, .ref qy, .ref qo, .int fn])), (qx, .inl (cI, 32, .inl (upd xs fn.toNatClampNeg i1))), (qy, .inl (cI, 32, .inl ys)), (qo, .inl (cI, 32, .inl os))] := hD
  refine lv_aload_n (pc := 19) hx hb d_fp_append_19 rfl (lv_at hl 0 rfl) ?_
  refine va_get (pc := 20) (D := D) (ci := 1) (v := .ref qy) (C := "TorsionDesk$FinitePoints") (T := tX1) (N := 4) hx hb hB lX1 hown hK hP 0 rfl rfl 1 (by decide) (hB _ zw_74) (fun _ h9 => h9) rfl d_fp_append_20 ?_
  refine lv_aload_n (pc := 23) hx hb d_fp_append_23 rfl (lv_at hl 0 rfl) ?_
  refine va_get (pc := 24) (D := D) (ci := 1) (v := .int fn) (C := "TorsionDesk$FinitePoints") (T := tX1) (N := 4) hx hb hB lX1 hown hK hP 0 rfl rfl 3 (by decide) (hB _ zw_78) (fun _ h9 => h9) rfl d_fp_append_24 ?_
  refine lv_iload_n (pc := 27) hx hb d_fp_append_27 rfl (lv_at hl 2 rfl) ?_
  refine va_iast (pc := 28) hx hb hK hP hD hS 2 0 rfl rfl g2 d_fp_append_28 (fun H locs hP hD hS => ?_)
  have hP : va_P D vwCl [(qf, .inr (1, [.ref qx, .ref qy, .ref qo, .int fn])), (qx, .inl (cI, 32, .inl (upd xs fn.toNatClampNeg i1))), (qy, .inl (cI, 32, .inl (upd ys fn.toNatClampNeg i2))), (qo, .inl (cI, 32, .inl os))] H := hP
  have hD : va_D A [(qf, .inr (1, [.ref qx, .ref qy, .ref qo, .int fn])), (qx, .inl (cI, 32, .inl (upd xs fn.toNatClampNeg i1))), (qy, .inl (cI, 32, .inl (upd ys fn.toNatClampNeg i2))), (qo, .inl (cI, 32, .inl os))] := hD
  refine lv_aload_n (pc := 29) hx hb d_fp_append_29 rfl (lv_at hl 0 rfl) ?_
  refine lv_dup (pc := 30) hx hb d_fp_append_30 rfl ?_
  refine va_get (pc := 31) (D := D) (ci := 1) (v := .int fn) (C := "TorsionDesk$FinitePoints") (T := tX1) (N := 4) hx hb hB lX1 hown hK hP 0 rfl rfl 3 (by decide) (hB _ zw_78) (fun _ h9 => h9) rfl d_fp_append_31 ?_
  refine lv_iconst (pc := 34) (v := (1 : Int32)) hx hb d_fp_append_34 (by decide) ?_
  refine lv_iadd (pc := 35) hx hb d_fp_append_35 ?_
  refine va_put (pc := 36) (D := D) (ci := 1) (v := .int (fn + (1 : Int32))) (ty := .int) (C := "TorsionDesk$FinitePoints") (T := tX1) (N := 4) hx hb hB lX1 yX1 yX1_ok nX1 hown hK hP hD hS 0 rfl rfl 3 (by decide) (hB _ zw_78) (fun _ h9 => h9) rfl (by decide +kernel) rfl rfl (Nat.le_of_ble_eq_true rfl) d_fp_append_36 (fun H locs hP hD hS => ?_)
  have hP : va_P D vwCl [(qf, .inr (1, [.ref qx, .ref qy, .ref qo, .int (fn + (1 : Int32))])), (qx, .inl (cI, 32, .inl (upd xs fn.toNatClampNeg i1))), (qy, .inl (cI, 32, .inl (upd ys fn.toNatClampNeg i2))), (qo, .inl (cI, 32, .inl os))] H := hP
  have hD : va_D A [(qf, .inr (1, [.ref qx, .ref qy, .ref qo, .int (fn + (1 : Int32))])), (qx, .inl (cI, 32, .inl (upd xs fn.toNatClampNeg i1))), (qy, .inl (cI, 32, .inl (upd ys fn.toNatClampNeg i2))), (qo, .inl (cI, 32, .inl os))] := hD
  cases hm
  rw [hQ]
  exact W.vret (pc := 39) hx hb hr (fun t ht _ => ⟨rfl, by rw [ht]; exact hP, hS.F ht⟩) hS.2.2 d_fp_append_39
abbrev rm_fp_orderOf : Room := { frames := 2, cells := 0, slots := 0, locals := 61 }
def a_fp_orderOf_L5 (fn : Int32) (xs : Nat → Int32) (ys : Nat → Int32) (sq : Int64) (li : Int64) (i2 : Int32) : Nat → Int32 → Int32 → Option (Int32)
  | 0, _, _ => none
  | n + 1, x3_5, x4_5 => (if (12 : Int32) < x4_5 then (some (-1 : Int32)) else (if x3_5 = 0 then (some x4_5) else ((a_fp_added n fn xs ys sq li x3_5 i2).bind (fun r_c23 => a_fp_orderOf_L5 fn xs ys sq li i2 n r_c23 (x4_5 + (1 : Int32))))))
def a_fp_orderOf (N : Nat) (fn : Int32) (xs : Nat → Int32) (ys : Nat → Int32) (sq : Int64) (li : Int64) (i2 : Int32) : Option (Int32) := a_fp_orderOf_L5 fn xs ys sq li i2 N i2 (1 : Int32)
set_option maxHeartbeats 4000000 in
set_option maxRecDepth 100000 in
theorem w_a_fp_orderOf (l : Launch) (D : va_G) (cI cJ : ClassId) (qf : Nat) (qx : Nat) (qy : Nat) (qo : Nat) (fn : Int32) (xs : Nat → Int32) (ys : Nat → Int32) (os : Nat → Int32) (qu : Nat) (qr : Nat) (sq : Int64) (li : Int64) (co : Int64) (di : Int64) (rc : Nat → Int32) (i2 : Int32) (N : Nat) (r0 : Int32) (hm : a_fp_orderOf N fn xs ys sq li i2 = some r0) : Met l y_fp_orderOf zs_fp_orderOf rm_fp_orderOf (zPc [.ref qf, .ref qu, .int i2] D [(qf, .inr (1, [.ref qx, .ref qy, .ref qo, .int fn])), (qx, .inl (cI, 32, .inl xs)), (qy, .inl (cI, 32, .inl ys)), (qo, .inl (cI, 32, .inl os)), (qu, .inr (0, [.long sq, .long li, .long co, .long di, .ref qr])), (qr, .inl (cI, 97, .inl rc))] [(cI, .int), (cJ, .long)]) (zRd (some (.int r0))) 0 0 (fun _ => False) := by
  refine zm (by decide) (Nat.le_of_ble_eq_true rfl) ?_
  intro p e s m args below meth c R Q hR hQ hargs hx hb hml hr hlocks hnm hB hown hP hK hD0 ls hl
  have hown : s.vm.findClass "TorsionDesk$FinitePoints" = some m.cls := hown
  have hl : lv_has ls 5 [(0, .ref qf), (1, .ref qu), (2, .int i2)] := hl
  have k5 : ∀ (n : Nat) (x3_5 : Int32) (x4_5 : Int32) (ls : Array Slot), lv_has ls 5 [(0, .ref qf), (1, .ref qu), (2, .int i2), (3, .int x3_5), (4, .int x4_5)] → a_fp_orderOf_L5 fn xs ys sq li i2 n x3_5 x4_5 = some r0 → W p l e R s m args below meth c s.heap [] 0 0 Q (F0 m 5 ls []) := by
    intro n
    induction n with
    | zero => intro x3_5 x4_5  ls hl hm; rw [a_fp_orderOf_L5] at hm; cases hm
    | succ n ih =>
      intro x3_5 x4_5  ls hl hm
      rw [a_fp_orderOf_L5] at hm
      refine lv_iload (pc := 5) hx hb d_fp_orderOf_5 (lv_at hl 4 rfl) ?_
      refine lv_bipush (pc := 7) (v := (12 : Int32)) hx hb d_fp_orderOf_7 (by decide) ?_
      refine lv_icmp_gt (pc := 9) (tgt := 33) hx hb d_fp_orderOf_9 rfl (fun h1 => ?_) (fun h1 => ?_)
      · rw [if_pos h1] at hm
        refine lv_iconst (pc := 33) (v := (-1 : Int32)) hx hb d_fp_orderOf_33 (by decide) ?_
        cases hm
        rw [hQ]
        exact W.iret (pc := 34) hx hb hr (fun t ht _ => ⟨rfl, ht⟩) (fun _ h9 => nomatch h9) d_fp_orderOf_34
      rw [if_neg h1] at hm
      refine lv_iload_n (pc := 12) hx hb d_fp_orderOf_12 rfl (lv_at hl 3 rfl) ?_
      refine lv_if_ne (pc := 13) (tgt := 19) hx hb d_fp_orderOf_13 rfl (fun h2 => ?_) (fun h2 => ?_)
      · rw [if_neg h2] at hm
        refine lv_aload_n (pc := 19) hx hb d_fp_orderOf_19 rfl (lv_at hl 0 rfl) ?_
        refine lv_aload_n (pc := 20) hx hb d_fp_orderOf_20 rfl (lv_at hl 1 rfl) ?_
        refine lv_iload_n (pc := 21) hx hb d_fp_orderOf_21 rfl (lv_at hl 3 rfl) ?_
        refine lv_iload_n (pc := 22) hx hb d_fp_orderOf_22 rfl (lv_at hl 2 rfl) ?_
        obtain ⟨r_c23, c3, hm⟩ := zbind hm
        try dsimp only at hm
        refine zcV (pc := 23) (As := [.ref qu, .int x3_5, .int i2]) (rest := []) ⟨hx, hb, hml, hown, hB⟩ (w_a_fp_added l D cI cJ qf qx qy qo fn xs ys os qu qr sq li co di rc x3_5 i2 n r_c23 c3) (cwV 3 hB (zgV zw_167 zw_144 zw_145 zw_4 zw_146) rfl rfl rfl (by decide +kernel) ⟨by rw [hR]; exact Nat.le_of_ble_eq_true rfl, by rw [hR]; exact Nat.le_of_ble_eq_true rfl⟩) hK (hP.sub (ws' := [(qf, .inr (1, [.ref qx, .ref qy, .ref qo, .int fn])), (qx, .inl (cI, 32, .inl xs)), (qy, .inl (cI, 32, .inl ys)), (qo, .inl (cI, 32, .inl os)), (qu, .inr (0, [.long sq, .long li, .long co, .long di, .ref qr])), (qr, .inl (cI, 97, .inl rc))]) [0, 1, 2, 3, 4, 5] rfl) (hD0.sub (ws' := [(qf, .inr (1, [.ref qx, .ref qy, .ref qo, .int fn])), (qx, .inl (cI, 32, .inl xs)), (qy, .inl (cI, 32, .inl ys)), (qo, .inl (cI, 32, .inl os)), (qu, .inr (0, [.long sq, .long li, .long co, .long di, .ref qr])), (qr, .inl (cI, 97, .inl rc))]) [0, 1, 2, 3, 4, 5] (by decide) rfl) rfl rfl rfl rfl hl.1 rfl (Nat.le_of_ble_eq_true rfl) d_fp_orderOf_23 ⟨Nat.zero_le _, Nat.zero_le _⟩ ?_
        refine lv_istore_n (pc := 26) (lv' := [(3, .int r_c23), (0, .ref qf), (1, .ref qu), (2, .int i2), (4, .int x4_5)]) hx hb d_fp_orderOf_26 rfl hl (Nat.le_of_ble_eq_true rfl) rfl (fun ls hl => ?_)
        refine lv_iinc (pc := 27) (k := 4) (v := x4_5 + (1 : Int32)) (lv' := [(4, .int (x4_5 + (1 : Int32))), (3, .int r_c23), (0, .ref qf), (1, .ref qu), (2, .int i2)]) hx hb d_fp_orderOf_27 hl rfl (congrArg (x4_5 + ·) (by decide)) (Nat.le_of_ble_eq_true rfl) rfl (fun ls hl => ?_)
        refine lv_goto (pc := 30) (tgt := 5) hx hb d_fp_orderOf_30 rfl ?_
        exact ih r_c23 (x4_5 + (1 : Int32)) ls (lv_sub hl [2, 3, 4, 1, 0] rfl) hm
      rw [if_pos h2] at hm
      refine lv_iload (pc := 16) hx hb d_fp_orderOf_16 (lv_at hl 4 rfl) ?_
      cases hm
      rw [hQ]
      exact W.iret (pc := 18) hx hb hr (fun t ht _ => ⟨rfl, ht⟩) (fun _ h9 => nomatch h9) d_fp_orderOf_18
  rw [a_fp_orderOf] at hm
  refine lv_iload_n (pc := 0) hx hb d_fp_orderOf_0 rfl (lv_at hl 2 rfl) ?_
  refine lv_istore_n (pc := 1) (lv' := [(3, .int i2), (0, .ref qf), (1, .ref qu), (2, .int i2)]) hx hb d_fp_orderOf_1 rfl hl (Nat.le_of_ble_eq_true rfl) rfl (fun ls hl => ?_)
  refine lv_iconst (pc := 2) (v := (1 : Int32)) hx hb d_fp_orderOf_2 (by decide) ?_
  refine lv_istore (pc := 3) (lv' := [(4, .int (1 : Int32)), (3, .int i2), (0, .ref qf), (1, .ref qu), (2, .int i2)]) hx hb d_fp_orderOf_3 hl (Nat.le_of_ble_eq_true rfl) rfl (fun ls hl => ?_)
  exact k5 N i2 (1 : Int32) ls (lv_sub hl [2, 3, 4, 1, 0] rfl) hm
