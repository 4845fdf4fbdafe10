abbrev rm_md_thrown : Room := { frames := 0, cells := 0, slots := 0, locals := 0 }
def a_md_thrown (mt : Int32) : Int32 := mt
set_option maxHeartbeats 4000000 in
set_option maxRecDepth 100000 in
theorem w_a_md_thrown (l : Launch) (D : va_G) (cI cJ : ClassId) (qm : Nat) (qa : Nat) (qb : Nat) (qc : Nat) (mt : Int32) (mh : Int32) (ma : Int32) (mc : Int32) (mp : Int32) (mz : Int32) (mw : Int32) (mr : Int32) (ml : Int32) (mf : Int32) (ms : Int32) (m1 : Int64) (m2 : Int64) (m3 : Int64) (m4 : Int64) (mx : Int64) (my : Int64) (pa : Nat → Int32) (pb : Nat → Int32) (po : Nat → Int32) (r0 : Int32) (hm : a_md_thrown mt = r0) : Met l y_md_thrown zs_md_thrown rm_md_thrown (zPc [.ref qm] D [(qm, .inr (4, [.int mt, .int mh, .int ma, .int mc, .long m1, .long m2, .long m3, .long m4, .int mp, .ref qa, .ref qb, .ref qc, .int mz, .int mw, .long mx, .long my, .int mr, .int ml, .int mf, .int ms])), (qa, .inl (cI, 40, .inl pa)), (qb, .inl (cI, 40, .inl pb)), (qc, .inl (cI, 40, .inl po))] [(cI, .int), (cJ, .long)]) (zRd (some (.int r0))) 0 0 (fun _ => False) := by
  refine zm (by decide) (Nat.le_of_ble_eq_true rfl) ?_
  intro p e s m args below meth c R Q hR hQ hargs hx hb hml hr hlocks hnm hB hown hP hK hD0 ls hl
  have hown : s.vm.findClass "TorsionDeskModel" = some m.cls := hown
  have hl : lv_has ls 1 [(0, .ref qm)] := hl
  rw [a_md_thrown] at hm
  refine lv_aload_n (pc := 0) hx hb d_md_thrown_0 rfl (lv_at hl 0 rfl) ?_
  refine va_get (pc := 1) (D := D) (ci := 4) (v := .int mt) (C := "TorsionDeskModel") (T := tX4) (N := 20) hx hb hB lX4 hown hK hP 0 rfl rfl 0 (by decide) (hB _ zw_417) (fun _ h9 => h9) rfl d_md_thrown_1 ?_
  subst hm
  rw [hQ]
  exact W.iret (pc := 4) hx hb hr (fun t ht _ => ⟨rfl, ht⟩) (fun _ h9 => nomatch h9) d_md_thrown_4
abbrev rm_md_discriminantOf : Room := { frames := 0, cells := 0, slots := 0, locals := 0 }
def a_md_discriminantOf (j1 : Int64) (j2 : Int64) (j3 : Int64) : Int64 := ((((((j1 * j1) * j2) * j2) - ((((4 : Int64) * j2) * j2) * j2)) - (((((4 : Int64) * j1) * j1) * j1) * j3)) - (((27 : Int64) * j3) * j3)) + ((((18 : Int64) * j1) * j2) * j3)
set_option maxHeartbeats 4000000 in
set_option maxRecDepth 100000 in
theorem w_a_md_discriminantOf (l : Launch) (D : va_G) (cI cJ : ClassId) (j1 : Int64) (j2 : Int64) (j3 : Int64) (r0 : Int64) (hm : a_md_discriminantOf j1 j2 j3 = r0) : Met l y_md_discriminantOf zs_md_discriminantOf rm_md_discriminantOf (zPc [.long j1, .long j2, .long j3] D [] [(cI, .int), (cJ, .long)]) (zRd (some (.long r0))) 0 0 (fun _ => False) := by
  refine zm (by decide) (Nat.le_of_ble_eq_true rfl) ?_
  intro p e s m args below meth c R Q hR hQ hargs hx hb hml hr hlocks hnm hB hown hP hK hD0 ls hl
  have hown : s.vm.findClass "TorsionDeskModel" = some m.cls := hown
  have hl : lv_has ls 6 [(0, .long j1), (2, .long j2), (4, .long j3)] := hl
  rw [a_md_discriminantOf] at hm
  refine lv_lload_n (pc := 0) hx hb d_md_discriminantOf_0 rfl (lv_at hl 0 rfl) ?_
  refine lv_lload_n (pc := 1) hx hb d_md_discriminantOf_1 rfl (lv_at hl 0 rfl) ?_
  refine lv_lmul (pc := 2) hx hb d_md_discriminantOf_2 ?_
  refine lv_lload_n (pc := 3) hx hb d_md_discriminantOf_3 rfl (lv_at hl 1 rfl) ?_
  refine lv_lmul (pc := 4) hx hb d_md_discriminantOf_4 ?_
  refine lv_lload_n (pc := 5) hx hb d_md_discriminantOf_5 rfl (lv_at hl 1 rfl) ?_
  refine lv_lmul (pc := 6) hx hb d_md_discriminantOf_6 ?_
  refine lv_ldc2 (pc := 7) (v := (4 : Int64)) hx hb hown (hB _ zw_492) d_md_discriminantOf_7 ?_
  refine lv_lload_n (pc := 10) hx hb d_md_discriminantOf_10 rfl (lv_at hl 1 rfl) ?_
  refine lv_lmul (pc := 11) hx hb d_md_discriminantOf_11 ?_
  refine lv_lload_n (pc := 12) hx hb d_md_discriminantOf_12 rfl (lv_at hl 1 rfl) ?_
  refine lv_lmul (pc := 13) hx hb d_md_discriminantOf_13 ?_
  refine lv_lload_n (pc := 14) hx hb d_md_discriminantOf_14 rfl (lv_at hl 1 rfl) ?_
  refine lv_lmul (pc := 15) hx hb d_md_discriminantOf_15 ?_
  refine lv_lsub (pc := 16) hx hb d_md_discriminantOf_16 ?_
  refine lv_ldc2 (pc := 17) (v := (4 : Int64)) hx hb hown (hB _ zw_492) d_md_discriminantOf_17 ?_
  refine lv_lload_n (pc := 20) hx hb d_md_discriminantOf_20 rfl (lv_at hl 0 rfl) ?_
  refine lv_lmul (pc := 21) hx hb d_md_discriminantOf_21 ?_
  refine lv_lload_n (pc := 22) hx hb d_md_discriminantOf_22 rfl (lv_at hl 0 rfl) ?_
  refine lv_lmul (pc := 23) hx hb d_md_discriminantOf_23 ?_
  refine lv_lload_n (pc := 24) hx hb d_md_discriminantOf_24 rfl (lv_at hl 0 rfl) ?_
  refine lv_lmul (pc := 25) hx hb d_md_discriminantOf_25 ?_
  refine lv_lload (pc := 26) hx hb d_md_discriminantOf_26 (lv_at hl 2 rfl) ?_
  refine lv_lmul (pc := 28) hx hb d_md_discriminantOf_28 ?_
  refine lv_lsub (pc := 29) hx hb d_md_discriminantOf_29 ?_
  refine lv_ldc2 (pc := 30) (v := (27 : Int64)) hx hb hown (hB _ zw_493) d_md_discriminantOf_30 ?_
  refine lv_lload (pc := 33) hx hb d_md_discriminantOf_33 (lv_at hl 2 rfl) ?_
  refine lv_lmul (pc := 35) hx hb d_md_discriminantOf_35 ?_
  refine lv_lload (pc := 36) hx hb d_md_discriminantOf_36 (lv_at hl 2 rfl) ?_
  refine lv_lmul (pc := 38) hx hb d_md_discriminantOf_38 ?_
  refine lv_lsub (pc := 39) hx hb d_md_discriminantOf_39 ?_
  refine lv_ldc2 (pc := 40) (v := (18 : Int64)) hx hb hown (hB _ zw_494) d_md_discriminantOf_40 ?_
  refine lv_lload_n (pc := 43) hx hb d_md_discriminantOf_43 rfl (lv_at hl 0 rfl) ?_
  refine lv_lmul (pc := 44) hx hb d_md_discriminantOf_44 ?_
  refine lv_lload_n (pc := 45) hx hb d_md_discriminantOf_45 rfl (lv_at hl 1 rfl) ?_
  refine lv_lmul (pc := 46) hx hb d_md_discriminantOf_46 ?_
  refine lv_lload (pc := 47) hx hb d_md_discriminantOf_47 (lv_at hl 2 rfl) ?_
  refine lv_lmul (pc := 49) hx hb d_md_discriminantOf_49 ?_
  refine lv_ladd (pc := 50) hx hb d_md_discriminantOf_50 ?_
  subst hm
  rw [hQ]
  exact W.lret (pc := 51) hx hb hr (fun t ht _ => ⟨rfl, ht⟩) (fun _ h9 => nomatch h9) d_md_discriminantOf_51
abbrev rm_md_cubic : Room := { frames := 0, cells := 0, slots := 0, locals := 0 }
def a_md_cubic (m1 : Int64) (m2 : Int64) (m3 : Int64) (j1 : Int64) : Int64 := ((((j1 + m1) * j1) + m2) * j1) + m3
set_option maxHeartbeats 4000000 in
set_option maxRecDepth 100000 in
theorem w_a_md_cubic (l : Launch) (D : va_G) (cI cJ : ClassId) (qm : Nat) (qa : Nat) (qb : Nat) (qc : Nat) (mt : Int32) (mh : Int32) (ma : Int32) (mc : Int32) (mp : Int32) (mz : Int32) (mw : Int32) (mr : Int32) (ml : Int32) (mf : Int32) (ms : Int32) (m1 : Int64) (m2 : Int64) (m3 : Int64) (m4 : Int64) (mx : Int64) (my : Int64) (pa : Nat → Int32) (pb : Nat → Int32) (po : Nat → Int32) (j1 : Int64) (r0 : Int64) (hm : a_md_cubic m1 m2 m3 j1 = r0) : Met l y_md_cubic zs_md_cubic rm_md_cubic (zPc [.ref qm, .long j1] D [(qm, .inr (4, [.int mt, .int mh, .int ma, .int mc, .long m1, .long m2, .long m3, .long m4, .int mp, .ref qa, .ref qb, .ref qc, .int mz, .int mw, .long mx, .long my, .int mr, .int ml, .int mf, .int ms])), (qa, .inl (cI, 40, .inl pa)), (qb, .inl (cI, 40, .inl pb)), (qc, .inl (cI, 40, .inl po))] [(cI, .int), (cJ, .long)]) (zRd (some (.long r0))) 0 0 (fun _ => False) := by
  refine zm (by decide) (Nat.le_of_ble_eq_true rfl) ?_
  intro p e s m args below meth c R Q hR hQ hargs hx hb hml hr hlocks hnm hB hown hP hK hD0 ls hl
  have hown : s.vm.findClass "TorsionDeskModel" = some m.cls := hown
  have hl : lv_has ls 3 [(0, .ref qm), (1, .long j1)] := hl
  rw [a_md_cubic] at hm
  refine lv_lload_n (pc := 0) hx hb d_md_cubic_0 rfl (lv_at hl 1 rfl) ?_
  refine lv_aload_n (pc := 1) hx hb d_md_cubic_1 rfl (lv_at hl 0 rfl) ?_
  refine va_get (pc := 2) (D := D) (ci := 4) (v := .long m1) (C := "TorsionDeskModel") (T := tX4) (N := 20) hx hb hB lX4 hown hK hP 0 rfl rfl 4 (by decide) (hB _ zw_421) (fun _ h9 => h9) rfl d_md_cubic_2 ?_
  refine lv_ladd (pc := 5) hx hb d_md_cubic_5 ?_
  refine lv_lload_n (pc := 6) hx hb d_md_cubic_6 rfl (lv_at hl 1 rfl) ?_
  refine lv_lmul (pc := 7) hx hb d_md_cubic_7 ?_
  refine lv_aload_n (pc := 8) hx hb d_md_cubic_8 rfl (lv_at hl 0 rfl) ?_
  refine va_get (pc := 9) (D := D) (ci := 4) (v := .long m2) (C := "TorsionDeskModel") (T := tX4) (N := 20) hx hb hB lX4 hown hK hP 0 rfl rfl 5 (by decide) (hB _ zw_422) (fun _ h9 => h9) rfl d_md_cubic_9 ?_
  refine lv_ladd (pc := 12) hx hb d_md_cubic_12 ?_
  refine lv_lload_n (pc := 13) hx hb d_md_cubic_13 rfl (lv_at hl 1 rfl) ?_
  refine lv_lmul (pc := 14) hx hb d_md_cubic_14 ?_
  refine lv_aload_n (pc := 15) hx hb d_md_cubic_15 rfl (lv_at hl 0 rfl) ?_
  refine va_get (pc := 16) (D := D) (ci := 4) (v := .long m3) (C := "TorsionDeskModel") (T := tX4) (N := 20) hx hb hB lX4 hown hK hP 0 rfl rfl 6 (by decide) (hB _ zw_423) (fun _ h9 => h9) rfl d_md_cubic_16 ?_
  refine lv_ladd (pc := 19) hx hb d_md_cubic_19 ?_
  subst hm
  rw [hQ]
  exact W.lret (pc := 20) hx hb hr (fun t ht _ => ⟨rfl, ht⟩) (fun _ h9 => nomatch h9) d_md_cubic_20
abbrev rm_md_small : Room := { frames := 0, cells := 0, slots := 0, locals := 0 }
def a_md_small (i1 : Int32) : Int32 := (if i1 < (-6 : Int32) then (0 : Int32) else (if (6 : Int32) < i1 then (0 : Int32) else (1 : Int32)))
set_option maxHeartbeats 4000000 in
set_option maxRecDepth 100000 in
theorem w_a_md_small (l : Launch) (D : va_G) (cI cJ : ClassId) (i1 : Int32) (r0 : Int32) (hm : a_md_small i1 = r0) : Met l y_md_small zs_md_small rm_md_small (zPc [.int i1] D [] [(cI, .int), (cJ, .long)]) (zRd (some (.int r0))) 0 0 (fun _ => False) := by
  refine zm (by decide) (Nat.le_of_ble_eq_true rfl) ?_
  intro p e s m args below meth c R Q hR hQ hargs hx hb hml hr hlocks hnm hB hown hP hK hD0 ls hl
  have hown : s.vm.findClass "TorsionDeskModel" = some m.cls := hown
  have hl : lv_has ls 1 [(0, .int i1)] := hl
  rw [a_md_small] at hm
  refine lv_iload_n (pc := 0) hx hb d_md_small_0 rfl (lv_at hl 0 rfl) ?_
  refine lv_bipush (pc := 1) (v := (-6 : Int32)) hx hb d_md_small_1 (by decide) ?_
  refine lv_icmp_lt (pc := 3) (tgt := 16) hx hb d_md_small_3 rfl (fun h1 => ?_) (fun h1 => ?_)
  · rw [if_pos h1] at hm
    refine lv_iconst (pc := 16) (v := (0 : Int32)) hx hb d_md_small_16 (by decide) ?_
    subst hm
    rw [hQ]
    exact W.zret (pc := 17) hx hb hr rfl (fun t ht _ => ⟨rfl, ht⟩) (fun _ h9 => nomatch h9) d_md_small_17
  rw [if_neg h1] at hm
  refine lv_iload_n (pc := 6) hx hb d_md_small_6 rfl (lv_at hl 0 rfl) ?_
  refine lv_bipush (pc := 7) (v := (6 : Int32)) hx hb d_md_small_7 (by decide) ?_
  refine lv_icmp_gt (pc := 9) (tgt := 16) hx hb d_md_small_9 rfl (fun h2 => ?_) (fun h2 => ?_)
  · rw [if_pos h2] at hm
    refine lv_iconst (pc := 16) (v := (0 : Int32)) hx hb d_md_small_16 (by decide) ?_
    subst hm
    rw [hQ]
    exact W.zret (pc := 17) hx hb hr rfl (fun t ht _ => ⟨rfl, ht⟩) (fun _ h9 => nomatch h9) d_md_small_17
  rw [if_neg h2] at hm
  refine lv_iconst (pc := 12) (v := (1 : Int32)) hx hb d_md_small_12 (by decide) ?_
  refine lv_goto (pc := 13) (tgt := 17) hx hb d_md_small_13 rfl ?_
  subst hm
  rw [hQ]
  exact W.zret (pc := 17) hx hb hr rfl (fun t ht _ => ⟨rfl, ht⟩) (fun _ h9 => nomatch h9) d_md_small_17
abbrev rm_md_root : Room := { frames := 0, cells := 0, slots := 0, locals := 0 }
def a_md_root_L5 (j1 : Int64) : Nat → Int32 → Int32 → Option (Int32)
  | 0, _, _ => none
  | n + 1, x3_5, x2_5 => (if x3_5 ≤ 0 then (some x2_5) else (if j1 < (((x2_5 + x3_5).toInt64) * ((x2_5 + x3_5).toInt64)) then a_md_root_L5 j1 n (x3_5 / (2 : Int32)) x2_5 else a_md_root_L5 j1 n (x3_5 / (2 : Int32)) (x2_5 + x3_5)))
def a_md_root (N : Nat) (j1 : Int64) : Option (Int32) := a_md_root_L5 j1 N (65536 : Int32) (0 : Int32)
set_option maxHeartbeats 4000000 in
set_option maxRecDepth 100000 in
theorem w_a_md_root (l : Launch) (D : va_G) (cI cJ : ClassId) (j1 : Int64) (N : Nat) (r0 : Int32) (hm : a_md_root N j1 = some r0) : Met l y_md_root zs_md_root rm_md_root (zPc [.long j1] D [] [(cI, .int), (cJ, .long)]) (zRd (some (.int r0))) 0 0 (fun _ => False) := by
  refine zm (by decide) (Nat.le_of_ble_eq_true rfl) ?_
  intro p e s m args below meth c R Q hR hQ hargs hx hb hml hr hlocks hnm hB hown hP hK hD0 ls hl
  have hown : s.vm.findClass "TorsionDeskModel" = some m.cls := hown
  have hl : lv_has ls 6 [(0, .long j1)] := hl
  have k5 : ∀ (n : Nat) (x3_5 : Int32) (x2_5 : Int32) (ls : Array Slot), lv_has ls 6 [(0, .long j1), (2, .int x2_5), (3, .int x3_5)] → a_md_root_L5 j1 n x3_5 x2_5 = some r0 → W p l e R s m args below meth c s.heap [] 0 0 Q (F0 m 5 ls []) := by
    intro n
    induction n with
    | zero => intro x3_5 x2_5  ls hl hm; rw [a_md_root_L5] at hm; cases hm
    | succ n ih =>
      intro x3_5 x2_5  ls hl hm
      rw [a_md_root_L5] at hm
      refine lv_iload_n (pc := 5) hx hb d_md_root_5 rfl (lv_at hl 2 rfl) ?_
      refine lv_if_le (pc := 6) (tgt := 40) hx hb d_md_root_6 rfl (fun h1 => ?_) (fun h1 => ?_)
      · rw [if_pos h1] at hm
        refine lv_iload_n (pc := 40) hx hb d_md_root_40 rfl (lv_at hl 1 rfl) ?_
        cases hm
        rw [hQ]
        exact W.iret (pc := 41) hx hb hr (fun t ht _ => ⟨rfl, ht⟩) (fun _ h9 => nomatch h9) d_md_root_41
      rw [if_neg h1] at hm
      refine lv_iload_n (pc := 9) hx hb d_md_root_9 rfl (lv_at hl 1 rfl) ?_
      refine lv_iload_n (pc := 10) hx hb d_md_root_10 rfl (lv_at hl 2 rfl) ?_
      refine lv_iadd (pc := 11) hx hb d_md_root_11 ?_
      refine lv_i2l (pc := 12) hx hb d_md_root_12 rfl ?_
      refine lv_lstore (pc := 13) (lv' := [(4, .long ((x2_5 + x3_5).toInt64)), (0, .long j1), (2, .int x2_5), (3, .int x3_5)]) hx hb d_md_root_13 hl (Nat.le_of_ble_eq_true rfl) rfl (fun ls hl => ?_)
      refine lv_lload (pc := 15) hx hb d_md_root_15 (lv_at hl 0 rfl) ?_
      refine lv_lload (pc := 17) hx hb d_md_root_17 (lv_at hl 0 rfl) ?_
      refine lv_lmul (pc := 19) hx hb d_md_root_19 ?_
      refine lv_lload_n (pc := 20) hx hb d_md_root_20 rfl (lv_at hl 1 rfl) ?_
      refine zl_gt (pc := 21) (tgt := 31) hx hb d_md_root_21 d_md_root_22 rfl (fun h2 => ?_) (fun h2 => ?_)
      · rw [if_pos h2] at hm
        refine lv_iload_n (pc := 31) hx hb d_md_root_31 rfl (lv_at hl 2 rfl) ?_
        refine lv_istore_n (pc := 32) (lv' := [(2, .int x2_5), (4, .long ((x2_5 + x3_5).toInt64)), (0, .long j1), (3, .int x3_5)]) hx hb d_md_root_32 rfl hl (Nat.le_of_ble_eq_true rfl) rfl (fun ls hl => ?_)
        refine lv_iload_n (pc := 33) hx hb d_md_root_33 rfl (lv_at hl 3 rfl) ?_
        refine lv_iconst (pc := 34) (v := (2 : Int32)) hx hb d_md_root_34 (by decide) ?_
        refine lv_idiv (pc := 35) hx hb d_md_root_35 (by decide) ?_
        refine lv_istore_n (pc := 36) (lv' := [(3, .int (x3_5 / (2 : Int32))), (2, .int x2_5), (4, .long ((x2_5 + x3_5).toInt64)), (0, .long j1)]) hx hb d_md_root_36 rfl hl (Nat.le_of_ble_eq_true rfl) rfl (fun ls hl => ?_)
        refine lv_goto (pc := 37) (tgt := 5) hx hb d_md_root_37 rfl ?_
        exact ih (x3_5 / (2 : Int32)) x2_5 ls (lv_sub hl [3, 1, 0] rfl) hm
      rw [if_neg h2] at hm
      refine lv_iload_n (pc := 25) hx hb d_md_root_25 rfl (lv_at hl 2 rfl) ?_
      refine lv_iload_n (pc := 26) hx hb d_md_root_26 rfl (lv_at hl 3 rfl) ?_
      refine lv_iadd (pc := 27) hx hb d_md_root_27 ?_
      refine lv_goto (pc := 28) (tgt := 32) hx hb d_md_root_28 rfl ?_
      refine lv_istore_n (pc := 32) (lv' := [(2, .int (x2_5 + x3_5)), (4, .long ((x2_5 + x3_5).toInt64)), (0, .long j1), (3, .int x3_5)]) hx hb d_md_root_32 rfl hl (Nat.le_of_ble_eq_true rfl) rfl (fun ls hl => ?_)
      refine lv_iload_n (pc := 33) hx hb d_md_root_33 rfl (lv_at hl 3 rfl) ?_
      refine lv_iconst (pc := 34) (v := (2 : Int32)) hx hb d_md_root_34 (by decide) ?_
      refine lv_idiv (pc := 35) hx hb d_md_root_35 (by decide) ?_
      refine lv_istore_n (pc := 36) (lv' := [(3, .int (x3_5 / (2 : Int32))), (2, .int (x2_5 + x3_5)), (4, .long ((x2_5 + x3_5).toInt64)), (0, .long j1)]) hx hb d_md_root_36 rfl hl (Nat.le_of_ble_eq_true rfl) rfl (fun ls hl => ?_)
      refine lv_goto (pc := 37) (tgt := 5) hx hb d_md_root_37 rfl ?_
      exact ih (x3_5 / (2 : Int32)) (x2_5 + x3_5) ls (lv_sub hl [3, 1, 0] rfl) hm
  rw [a_md_root] at hm
  refine lv_iconst (pc := 0) (v := (0 : Int32)) hx hb d_md_root_0 (by decide) ?_
  refine lv_istore_n (pc := 1) (lv' := [(2, .int (0 : Int32)), (0, .long j1)]) hx hb d_md_root_1 rfl hl (Nat.le_of_ble_eq_true rfl) rfl (fun ls hl => ?_)
  refine lv_ldc (pc := 2) (v := (65536 : Int32)) hx hb hown (hB _ zw_514) d_md_root_2 ?_
  refine lv_istore_n (pc := 4) (lv' := [(3, .int (65536 : Int32)), (2, .int (0 : Int32)), (0, .long j1)]) hx hb d_md_root_4 rfl hl (Nat.le_of_ble_eq_true rfl) rfl (fun ls hl => ?_)
  exact k5 N (65536 : Int32) (0 : Int32) ls (lv_sub hl [2, 1, 0] rfl) hm
abbrev rm_md_add : Room := { frames := 0, cells := 0, slots := 0, locals := 0 }
def a_md_add (m1 : Int64) (m2 : Int64) (mx : Int64) (my : Int64) (i1 : Int32) (j2 : Int64) (j3 : Int64) (j4 : Int64) (j5 : Int64) : Option (Int32 × Int32 × Int64 × Int64) := (if i1 = 0 then (if j2 = j4 then (if j3 = (-j5) then (some ((1 : Int32), (1 : Int32), mx, my)) else (if j2 = j4 then (if ((2 : Int64) * j3) = 0 then none else (if ((((((3 : Int64) * j2) * j2) + (((2 : Int64) * m1) * j2)) + m2) - (((((3 : Int64) * j2) * j2) + (((2 : Int64) * m1) * j2)) + m2) / ((2 : Int64) * j3) * ((2 : Int64) * j3)) = (0 : Int64) then (if ((((((((((3 : Int64) * j2) * j2) + (((2 : Int64) * m1) * j2)) + m2) / ((2 : Int64) * j3)) * ((((((3 : Int64) * j2) * j2) + (((2 : Int64) * m1) * j2)) + m2) / ((2 : Int64) * j3))) - m1) - j2) - j4) < (-5000 : Int64) then (some ((0 : Int32), (0 : Int32), (((((((((3 : Int64) * j2) * j2) + (((2 : Int64) * m1) * j2)) + m2) / ((2 : Int64) * j3)) * ((((((3 : Int64) * j2) * j2) + (((2 : Int64) * m1) * j2)) + m2) / ((2 : Int64) * j3))) - m1) - j2) - j4, -(j3 + (((((((3 : Int64) * j2) * j2) + (((2 : Int64) * m1) * j2)) + m2) / ((2 : Int64) * j3)) * (((((((((((3 : Int64) * j2) * j2) + (((2 : Int64) * m1) * j2)) + m2) / ((2 : Int64) * j3)) * ((((((3 : Int64) * j2) * j2) + (((2 : Int64) * m1) * j2)) + m2) / ((2 : Int64) * j3))) - m1) - j2) - j4) - j2))))) else (if (5000 : Int64) < ((((((((((3 : Int64) * j2) * j2) + (((2 : Int64) * m1) * j2)) + m2) / ((2 : Int64) * j3)) * ((((((3 : Int64) * j2) * j2) + (((2 : Int64) * m1) * j2)) + m2) / ((2 : Int64) * j3))) - m1) - j2) - j4) then (some ((0 : Int32), (0 : Int32), (((((((((3 : Int64) * j2) * j2) + (((2 : Int64) * m1) * j2)) + m2) / ((2 : Int64) * j3)) * ((((((3 : Int64) * j2) * j2) + (((2 : Int64) * m1) * j2)) + m2) / ((2 : Int64) * j3))) - m1) - j2) - j4, -(j3 + (((((((3 : Int64) * j2) * j2) + (((2 : Int64) * m1) * j2)) + m2) / ((2 : Int64) * j3)) * (((((((((((3 : Int64) * j2) * j2) + (((2 : Int64) * m1) * j2)) + m2) / ((2 : Int64) * j3)) * ((((((3 : Int64) * j2) * j2) + (((2 : Int64) * m1) * j2)) + m2) / ((2 : Int64) * j3))) - m1) - j2) - j4) - j2))))) else (some ((0 : Int32), (1 : Int32), (((((((((3 : Int64) * j2) * j2) + (((2 : Int64) * m1) * j2)) + m2) / ((2 : Int64) * j3)) * ((((((3 : Int64) * j2) * j2) + (((2 : Int64) * m1) * j2)) + m2) / ((2 : Int64) * j3))) - m1) - j2) - j4, -(j3 + (((((((3 : Int64) * j2) * j2) + (((2 : Int64) * m1) * j2)) + m2) / ((2 : Int64) * j3)) * (((((((((((3 : Int64) * j2) * j2) + (((2 : Int64) * m1) * j2)) + m2) / ((2 : Int64) * j3)) * ((((((3 : Int64) * j2) * j2) + (((2 : Int64) * m1) * j2)) + m2) / ((2 : Int64) * j3))) - m1) - j2) - j4) - j2))))))) else (some ((0 : Int32), (0 : Int32), mx, my)))) else (if (j4 - j2) = 0 then none else (if ((j5 - j3) - (j5 - j3) / (j4 - j2) * (j4 - j2)) = (0 : Int64) then (if ((((((j5 - j3) / (j4 - j2)) * ((j5 - j3) / (j4 - j2))) - m1) - j2) - j4) < (-5000 : Int64) then (some ((0 : Int32), (0 : Int32), (((((j5 - j3) / (j4 - j2)) * ((j5 - j3) / (j4 - j2))) - m1) - j2) - j4, -(j3 + (((j5 - j3) / (j4 - j2)) * (((((((j5 - j3) / (j4 - j2)) * ((j5 - j3) / (j4 - j2))) - m1) - j2) - j4) - j2))))) else (if (5000 : Int64) < ((((((j5 - j3) / (j4 - j2)) * ((j5 - j3) / (j4 - j2))) - m1) - j2) - j4) then (some ((0 : Int32), (0 : Int32), (((((j5 - j3) / (j4 - j2)) * ((j5 - j3) / (j4 - j2))) - m1) - j2) - j4, -(j3 + (((j5 - j3) / (j4 - j2)) * (((((((j5 - j3) / (j4 - j2)) * ((j5 - j3) / (j4 - j2))) - m1) - j2) - j4) - j2))))) else (some ((0 : Int32), (1 : Int32), (((((j5 - j3) / (j4 - j2)) * ((j5 - j3) / (j4 - j2))) - m1) - j2) - j4, -(j3 + (((j5 - j3) / (j4 - j2)) * (((((((j5 - j3) / (j4 - j2)) * ((j5 - j3) / (j4 - j2))) - m1) - j2) - j4) - j2))))))) else (some ((0 : Int32), (0 : Int32), mx, my)))))) else (if j2 = j4 then (if ((2 : Int64) * j3) = 0 then none else (if ((((((3 : Int64) * j2) * j2) + (((2 : Int64) * m1) * j2)) + m2) - (((((3 : Int64) * j2) * j2) + (((2 : Int64) * m1) * j2)) + m2) / ((2 : Int64) * j3) * ((2 : Int64) * j3)) = (0 : Int64) then (if ((((((((((3 : Int64) * j2) * j2) + (((2 : Int64) * m1) * j2)) + m2) / ((2 : Int64) * j3)) * ((((((3 : Int64) * j2) * j2) + (((2 : Int64) * m1) * j2)) + m2) / ((2 : Int64) * j3))) - m1) - j2) - j4) < (-5000 : Int64) then (some ((0 : Int32), (0 : Int32), (((((((((3 : Int64) * j2) * j2) + (((2 : Int64) * m1) * j2)) + m2) / ((2 : Int64) * j3)) * ((((((3 : Int64) * j2) * j2) + (((2 : Int64) * m1) * j2)) + m2) / ((2 : Int64) * j3))) - m1) - j2) - j4, -(j3 + (((((((3 : Int64) * j2) * j2) + (((2 : Int64) * m1) * j2)) + m2) / ((2 : Int64) * j3)) * (((((((((((3 : Int64) * j2) * j2) + (((2 : Int64) * m1) * j2)) + m2) / ((2 : Int64) * j3)) * ((((((3 : Int64) * j2) * j2) + (((2 : Int64) * m1) * j2)) + m2) / ((2 : Int64) * j3))) - m1) - j2) - j4) - j2))))) else (if (5000 : Int64) < ((((((((((3 : Int64) * j2) * j2) + (((2 : Int64) * m1) * j2)) + m2) / ((2 : Int64) * j3)) * ((((((3 : Int64) * j2) * j2) + (((2 : Int64) * m1) * j2)) + m2) / ((2 : Int64) * j3))) - m1) - j2) - j4) then (some ((0 : Int32), (0 : Int32), (((((((((3 : Int64) * j2) * j2) + (((2 : Int64) * m1) * j2)) + m2) / ((2 : Int64) * j3)) * ((((((3 : Int64) * j2) * j2) + (((2 : Int64) * m1) * j2)) + m2) / ((2 : Int64) * j3))) - m1) - j2) - j4, -(j3 + (((((((3 : Int64) * j2) * j2) + (((2 : Int64) * m1) * j2)) + m2) / ((2 : Int64) * j3)) * (((((((((((3 : Int64) * j2) * j2) + (((2 : Int64) * m1) * j2)) + m2) / ((2 : Int64) * j3)) * ((((((3 : Int64) * j2) * j2) + (((2 : Int64) * m1) * j2)) + m2) / ((2 : Int64) * j3))) - m1) - j2) - j4) - j2))))) else (some ((0 : Int32), (1 : Int32), (((((((((3 : Int64) * j2) * j2) + (((2 : Int64) * m1) * j2)) + m2) / ((2 : Int64) * j3)) * ((((((3 : Int64) * j2) * j2) + (((2 : Int64) * m1) * j2)) + m2) / ((2 : Int64) * j3))) - m1) - j2) - j4, -(j3 + (((((((3 : Int64) * j2) * j2) + (((2 : Int64) * m1) * j2)) + m2) / ((2 : Int64) * j3)) * (((((((((((3 : Int64) * j2) * j2) + (((2 : Int64) * m1) * j2)) + m2) / ((2 : Int64) * j3)) * ((((((3 : Int64) * j2) * j2) + (((2 : Int64) * m1) * j2)) + m2) / ((2 : Int64) * j3))) - m1) - j2) - j4) - j2))))))) else (some ((0 : Int32), (0 : Int32), mx, my)))) else (if (j4 - j2) = 0 then none else (if ((j5 - j3) - (j5 - j3) / (j4 - j2) * (j4 - j2)) = (0 : Int64) then (if ((((((j5 - j3) / (j4 - j2)) * ((j5 - j3) / (j4 - j2))) - m1) - j2) - j4) < (-5000 : Int64) then (some ((0 : Int32), (0 : Int32), (((((j5 - j3) / (j4 - j2)) * ((j5 - j3) / (j4 - j2))) - m1) - j2) - j4, -(j3 + (((j5 - j3) / (j4 - j2)) * (((((((j5 - j3) / (j4 - j2)) * ((j5 - j3) / (j4 - j2))) - m1) - j2) - j4) - j2))))) else (if (5000 : Int64) < ((((((j5 - j3) / (j4 - j2)) * ((j5 - j3) / (j4 - j2))) - m1) - j2) - j4) then (some ((0 : Int32), (0 : Int32), (((((j5 - j3) / (j4 - j2)) * ((j5 - j3) / (j4 - j2))) - m1) - j2) - j4, -(j3 + (((j5 - j3) / (j4 - j2)) * (((((((j5 - j3) / (j4 - j2)) * ((j5 - j3) / (j4 - j2))) - m1) - j2) - j4) - j2))))) else (some ((0 : Int32), (1 : Int32), (((((j5 - j3) / (j4 - j2)) * ((j5 - j3) / (j4 - j2))) - m1) - j2) - j4, -(j3 + (((j5 - j3) / (j4 - j2)) * (((((((j5 - j3) / (j4 - j2)) * ((j5 - j3) / (j4 - j2))) - m1) - j2) - j4) - j2))))))) else (some ((0 : Int32), (0 : Int32), mx, my)))))) else (some ((0 : Int32), (1 : Int32), j4, j5)))
set_option maxHeartbeats 4000000 in
set_option maxRecDepth 100000 in
theorem w_a_md_add (l : Launch) (D : va_G) (cI cJ : ClassId) (qm : Nat) (qa : Nat) (qb : Nat) (qc : Nat) (mt : Int32) (mh : Int32) (ma : Int32) (mc : Int32) (mp : Int32) (mz : Int32) (mw : Int32) (mr : Int32) (ml : Int32) (mf : Int32) (ms : Int32) (m1 : Int64) (m2 : Int64) (m3 : Int64) (m4 : Int64) (mx : Int64) (my : Int64) (pa : Nat → Int32) (pb : Nat → Int32) (po : Nat → Int32) (i1 : Int32) (j2 : Int64) (j3 : Int64) (j4 : Int64) (j5 : Int64) (r0 : Int32) (r1 : Int32) (r2 : Int64) (r3 : Int64) (hm : a_md_add m1 m2 mx my i1 j2 j3 j4 j5 = some (r0, r1, r2, r3)) : Met l y_md_add zs_md_add rm_md_add (zPc [.ref qm, .int i1, .long j2, .long j3, .long j4, .long j5] D [(qm, .inr (4, [.int mt, .int mh, .int ma, .int mc, .long m1, .long m2, .long m3, .long m4, .int mp, .ref qa, .ref qb, .ref qc, .int mz, .int mw, .long mx, .long my, .int mr, .int ml, .int mf, .int ms])), (qa, .inl (cI, 40, .inl pa)), (qb, .inl (cI, 40, .inl pb)), (qc, .inl (cI, 40, .inl po))] [(cI, .int), (cJ, .long)]) (zWr none D (zIn [(qm, .inr (4, [.int mt, .int mh, .int ma, .int mc, .long m1, .long m2, .long m3, .long m4, .int mp, .ref qa, .ref qb, .ref qc, .int mz, .int mw, .long mx, .long my, .int mr, .int ml, .int mf, .int ms])), (qa, .inl (cI, 40, .inl pa)), (qb, .inl (cI, 40, .inl pb)), (qc, .inl (cI, 40, .inl po))]) [(qm, .inr (4, [.int mt, .int mh, .int ma, .int mc, .long m1, .long m2, .long m3, .long m4, .int mp, .ref qa, .ref qb, .ref qc, .int r0, .int r1, .long r2, .long r3, .int mr, .int ml, .int mf, .int ms])), (qa, .inl (cI, 40, .inl pa)), (qb, .inl (cI, 40, .inl pb)), (qc, .inl (cI, 40, .inl po))]) 0 0 (zIn [(qm, .inr (4, [.int mt, .int mh, .int ma, .int mc, .long m1, .long m2, .long m3, .long m4, .int mp, .ref qa, .ref qb, .ref qc, .int mz, .int mw, .long mx, .long my, .int mr, .int ml, .int mf, .int ms])), (qa, .inl (cI, 40, .inl pa)), (qb, .inl (cI, 40, .inl pb)), (qc, .inl (cI, 40, .inl po))]) := by
  refine zm (by decide) (Nat.le_of_ble_eq_true rfl) ?_
  intro p e s m args below meth c R Q hR hQ hargs hx hb hml hr hlocks hnm hB hown hP hK hD0 ls hl
  have hown : s.vm.findClass "TorsionDeskModel" = some m.cls := hown
  have hl : lv_has ls 19 [(0, .ref qm), (1, .int i1), (2, .long j2), (4, .long j3), (6, .long j4), (8, .long j5)] := hl
  obtain ⟨A, hA⟩ : ∃ A, A = zIn [(qm, .inr (4, [.int mt, .int mh, .int ma, .int mc, .long m1, .long m2, .long m3, .long m4, .int mp, .ref qa, .ref qb, .ref qc, .int mz, .int mw, .long mx, .long my, .int mr, .int ml, .int mf, .int ms])), (qa, .inl (cI, 40, .inl pa)), (qb, .inl (cI, 40, .inl pb)), (qc, .inl (cI, 40, .inl po))] := ⟨_, rfl⟩
  have hD : va_D A [(qm, .inr (4, [.int mt, .int mh, .int ma, .int mc, .long m1, .long m2, .long m3, .long m4, .int mp, .ref qa, .ref qb, .ref qc, .int mz, .int mw, .long mx, .long my, .int mr, .int ml, .int mf, .int ms])), (qa, .inl (cI, 40, .inl pa)), (qb, .inl (cI, 40, .inl pb)), (qc, .inl (cI, 40, .inl po))] := by rw [hA]; exact zIn_self hD0
  have hS : va_S A s.heap s.heap [] := va_S.rf
  rw [← hA] at hQ
  have main : ∀ (H : Heap) (locs : List Loc), va_P D vwCl [(qm, .inr (4, [.int mt, .int mh, .int ma, .int mc, .long m1, .long m2, .long m3, .long m4, .int mp, .ref qa, .ref qb, .ref qc, .int mz, .int mw, .long mx, .long my, .int mr, .int ml, .int mf, .int ms])), (qa, .inl (cI, 40, .inl pa)), (qb, .inl (cI, 40, .inl pb)), (qc, .inl (cI, 40, .inl po))] H → va_D A [(qm, .inr (4, [.int mt, .int mh, .int ma, .int mc, .long m1, .long m2, .long m3, .long m4, .int mp, .ref qa, .ref qb, .ref qc, .int mz, .int mw, .long mx, .long my, .int mr, .int ml, .int mf, .int ms])), (qa, .inl (cI, 40, .inl pa)), (qb, .inl (cI, 40, .inl pb)), (qc, .inl (cI, 40, .inl po))] → va_S A s.heap H locs → W p l e R s m args below meth c H locs 0 0 Q (F0 m 0 ls []) := by
    intro H locs hP hD hS
    rw [a_md_add] at hm
    refine lv_aload_n (pc := 0) hx hb d_md_add_0 rfl (lv_at hl 0 rfl) ?_
    refine lv_iconst (pc := 1) (v := (0 : Int32)) hx hb d_md_add_1 (by decide) ?_
    refine va_put (pc := 2) (D := D) (ci := 4) (v := .int (0 : Int32)) (ty := .boolean) (C := "TorsionDeskModel") (T := tX4) (N := 20) hx hb hB lX4 yX4 yX4_ok nX4 hown hK hP hD hS 0 rfl rfl 12 (by decide) (hB _ zw_429) (fun _ h9 => h9) rfl (by decide +kernel) rfl rfl (Nat.le_of_ble_eq_true rfl) d_md_add_2 (fun H locs hP hD hS => ?_)
    have hP : va_P D vwCl [(qm, .inr (4, [.int mt, .int mh, .int ma, .int mc, .long m1, .long m2, .long m3, .long m4, .int mp, .ref qa, .ref qb, .ref qc, .int (0 : Int32), .int mw, .long mx, .long my, .int mr, .int ml, .int mf, .int ms])), (qa, .inl (cI, 40, .inl pa)), (qb, .inl (cI, 40, .inl pb)), (qc, .inl (cI, 40, .inl po))] H := hP
    have hD : va_D A [(qm, .inr (4, [.int mt, .int mh, .int ma, .int mc, .long m1, .long m2, .long m3, .long m4, .int mp, .ref qa, .ref qb, .ref qc, .int (0 : Int32), .int mw, .long mx, .long my, .int mr, .int ml, .int mf, .int ms])), (qa, .inl (cI, 40, .inl pa)), (qb, .inl (cI, 40, .inl pb)), (qc, .inl (cI, 40, .inl po))] := hD
    refine lv_aload_n (pc := 5) hx hb d_md_add_5 rfl (lv_at hl 0 rfl) ?_
    refine lv_iconst (pc := 6) (v := (1 : Int32)) hx hb d_md_add_6 (by decide) ?_
    refine va_put (pc := 7) (D := D) (ci := 4) (v := .int (1 : Int32)) (ty := .boolean) (C := "TorsionDeskModel") (T := tX4) (N := 20) hx hb hB lX4 yX4 yX4_ok nX4 hown hK hP hD hS 0 rfl rfl 13 (by decide) (hB _ zw_430) (fun _ h9 => h9) rfl (by decide +kernel) rfl rfl (Nat.le_of_ble_eq_true rfl) d_md_add_7 (fun H locs hP hD hS => ?_)
    have hP : va_P D vwCl [(qm, .inr (4, [.int mt, .int mh, .int ma, .int mc, .long m1, .long m2, .long m3, .long m4, .int mp, .ref qa, .ref qb, .ref qc, .int (0 : Int32), .int (1 : Int32), .long mx, .long my, .int mr, .int ml, .int mf, .int ms])), (qa, .inl (cI, 40, .inl pa)), (qb, .inl (cI, 40, .inl pb)), (qc, .inl (cI, 40, .inl po))] H := hP
    have hD : va_D A [(qm, .inr (4, [.int mt, .int mh, .int ma, .int mc, .long m1, .long m2, .long m3, .long m4, .int mp, .ref qa, .ref qb, .ref qc, .int (0 : Int32), .int (1 : Int32), .long mx, .long my, .int mr, .int ml, .int mf, .int ms])), (qa, .inl (cI, 40, .inl pa)), (qb, .inl (cI, 40, .inl pb)), (qc, .inl (cI, 40, .inl po))] := hD
    refine lv_iload_n (pc := 10) hx hb d_md_add_10 rfl (lv_at hl 1 rfl) ?_
    refine lv_if_eq (pc := 11) (tgt := 27) hx hb d_md_add_11 rfl (fun h1 => ?_) (fun h1 => ?_)
    · rw [if_pos h1] at hm
      refine lv_lload_n (pc := 27) hx hb d_md_add_27 rfl (lv_at hl 2 rfl) ?_
      refine lv_lload (pc := 28) hx hb d_md_add_28 (lv_at hl 4 rfl) ?_
      refine zl_ne (pc := 30) (tgt := 49) hx hb d_md_add_30 d_md_add_31 rfl (fun h2 => ?_) (fun h2 => ?_)
      · rw [if_neg h2] at hm
        refine lv_lload_n (pc := 49) hx hb d_md_add_49 rfl (lv_at hl 2 rfl) ?_
        refine lv_lload (pc := 50) hx hb d_md_add_50 (lv_at hl 4 rfl) ?_
        refine zl_ne (pc := 52) (tgt := 60) hx hb d_md_add_52 d_md_add_53 rfl (fun h3 => ?_) (fun h3 => ?_)
        · rw [if_neg h3] at hm
          refine lv_iconst (pc := 60) (v := (0 : Int32)) hx hb d_md_add_60 (by decide) ?_
          refine lv_istore (pc := 61) (lv' := [(10, .int (0 : Int32)), (0, .ref qm), (1, .int i1), (2, .long j2), (4, .long j3), (6, .long j4), (8, .long j5)]) hx hb d_md_add_61 hl (Nat.le_of_ble_eq_true rfl) rfl (fun ls hl => ?_)
          refine lv_iload (pc := 63) hx hb d_md_add_63 (lv_at hl 0 rfl) ?_
          refine lv_if_eq (pc := 65) (tgt := 94) hx hb d_md_add_65 rfl (fun _ => ?_) (fun h9 => absurd (by decide) h9)
          refine lv_lload (pc := 94) hx hb d_md_add_94 (lv_at hl 6 rfl) ?_
          refine lv_lload (pc := 96) hx hb d_md_add_96 (lv_at hl 4 rfl) ?_
          refine lv_lsub (pc := 98) hx hb d_md_add_98 ?_
          refine lv_lstore (pc := 99) (lv' := [(11, .long (j5 - j3)), (10, .int (0 : Int32)), (0, .ref qm), (1, .int i1), (2, .long j2), (4, .long j3), (6, .long j4), (8, .long j5)]) hx hb d_md_add_99 hl (Nat.le_of_ble_eq_true rfl) rfl (fun ls hl => ?_)
          refine lv_iload (pc := 101) hx hb d_md_add_101 (lv_at hl 1 rfl) ?_
          refine lv_if_eq (pc := 103) (tgt := 115) hx hb d_md_add_103 rfl (fun _ => ?_) (fun h9 => absurd (by decide) h9)
          refine lv_lload (pc := 115) hx hb d_md_add_115 (lv_at hl 6 rfl) ?_
          refine lv_lload_n (pc := 117) hx hb d_md_add_117 rfl (lv_at hl 4 rfl) ?_
          refine lv_lsub (pc := 118) hx hb d_md_add_118 ?_
          refine lv_lstore (pc := 119) (lv' := [(13, .long (j4 - j2)), (11, .long (j5 - j3)), (10, .int (0 : Int32)), (0, .ref qm), (1, .int i1), (2, .long j2), (4, .long j3), (6, .long j4), (8, .long j5)]) hx hb d_md_add_119 hl (Nat.le_of_ble_eq_true rfl) rfl (fun ls hl => ?_)
          refine lv_lload (pc := 121) hx hb d_md_add_121 (lv_at hl 1 rfl) ?_
          refine lv_lload (pc := 123) hx hb d_md_add_123 (lv_at hl 0 rfl) ?_
          by_cases g4 : (j4 - j2) = 0
          · rw [if_pos g4] at hm; cases hm
          rw [if_neg g4] at hm
          refine lv_lrem (pc := 125) hx hb d_md_add_125 g4 ?_
          refine lv_lconst (pc := 126) (v := (0 : Int64)) hx hb d_md_add_126 (by decide) ?_
          refine zl_eq (pc := 127) (tgt := 137) hx hb d_md_add_127 d_md_add_128 rfl (fun h5 => ?_) (fun h5 => ?_)
          · rw [if_pos h5] at hm
            refine lv_lload (pc := 137) hx hb d_md_add_137 (lv_at hl 1 rfl) ?_
            refine lv_lload (pc := 139) hx hb d_md_add_139 (lv_at hl 0 rfl) ?_
            refine lv_ldiv (pc := 141) hx hb d_md_add_141 g4 ?_
            refine lv_lstore (pc := 142) (lv' := [(15, .long ((j5 - j3) / (j4 - j2))), (13, .long (j4 - j2)), (11, .long (j5 - j3)), (10, .int (0 : Int32)), (0, .ref qm), (1, .int i1), (2, .long j2), (4, .long j3), (6, .long j4), (8, .long j5)]) hx hb d_md_add_142 hl (Nat.le_of_ble_eq_true rfl) rfl (fun ls hl => ?_)
            refine lv_lload (pc := 144) hx hb d_md_add_144 (lv_at hl 0 rfl) ?_
            refine lv_lload (pc := 146) hx hb d_md_add_146 (lv_at hl 0 rfl) ?_
            refine lv_lmul (pc := 148) hx hb d_md_add_148 ?_
            refine lv_aload_n (pc := 149) hx hb d_md_add_149 rfl (lv_at hl 4 rfl) ?_
            refine va_get (pc := 150) (D := D) (ci := 4) (v := .long m1) (C := "TorsionDeskModel") (T := tX4) (N := 20) hx hb hB lX4 hown hK hP 0 rfl rfl 4 (by decide) (hB _ zw_421) (fun _ h9 => h9) rfl d_md_add_150 ?_
            refine lv_lsub (pc := 153) hx hb d_md_add_153 ?_
            refine lv_lload_n (pc := 154) hx hb d_md_add_154 rfl (lv_at hl 6 rfl) ?_
            refine lv_lsub (pc := 155) hx hb d_md_add_155 ?_
            refine lv_lload (pc := 156) hx hb d_md_add_156 (lv_at hl 8 rfl) ?_
            refine lv_lsub (pc := 158) hx hb d_md_add_158 ?_
            refine lv_lstore (pc := 159) (lv' := [(17, .long ((((((j5 - j3) / (j4 - j2)) * ((j5 - j3) / (j4 - j2))) - m1) - j2) - j4)), (15, .long ((j5 - j3) / (j4 - j2))), (13, .long (j4 - j2)), (11, .long (j5 - j3)), (10, .int (0 : Int32)), (0, .ref qm), (1, .int i1), (2, .long j2), (4, .long j3), (6, .long j4), (8, .long j5)]) hx hb d_md_add_159 hl (Nat.le_of_ble_eq_true rfl) rfl (fun ls hl => ?_)
            refine lv_aload_n (pc := 161) hx hb d_md_add_161 rfl (lv_at hl 5 rfl) ?_
            refine lv_lload (pc := 162) hx hb d_md_add_162 (lv_at hl 8 rfl) ?_
            refine lv_lload (pc := 164) hx hb d_md_add_164 (lv_at hl 1 rfl) ?_
            refine lv_lload (pc := 166) hx hb d_md_add_166 (lv_at hl 0 rfl) ?_
            refine lv_lload_n (pc := 168) hx hb d_md_add_168 rfl (lv_at hl 7 rfl) ?_
            refine lv_lsub (pc := 169) hx hb d_md_add_169 ?_
            refine lv_lmul (pc := 170) hx hb d_md_add_170 ?_
            refine lv_ladd (pc := 171) hx hb d_md_add_171 ?_
            refine lv_lneg (pc := 172) hx hb d_md_add_172 ?_
            refine va_put (pc := 173) (D := D) (ci := 4) (v := .long (-(j3 + (((j5 - j3) / (j4 - j2)) * (((((((j5 - j3) / (j4 - j2)) * ((j5 - j3) / (j4 - j2))) - m1) - j2) - j4) - j2))))) (ty := .long) (C := "TorsionDeskModel") (T := tX4) (N := 20) hx hb hB lX4 yX4 yX4_ok nX4 hown hK hP hD hS 0 rfl rfl 15 (by decide) (hB _ zw_432) (fun _ h9 => h9) rfl (by decide +kernel) rfl rfl (Nat.le_of_ble_eq_true rfl) d_md_add_173 (fun H locs hP hD hS => ?_)
            have hP : va_P D vwCl [(qm, .inr (4, [.int mt, .int mh, .int ma, .int mc, .long m1, .long m2, .long m3, .long m4, .int mp, .ref qa, .ref qb, .ref qc, .int (0 : Int32), .int (1 : Int32), .long mx, .long (-(j3 + (((j5 - j3) / (j4 - j2)) * (((((((j5 - j3) / (j4 - j2)) * ((j5 - j3) / (j4 - j2))) - m1) - j2) - j4) - j2)))), .int mr, .int ml, .int mf, .int ms])), (qa, .inl (cI, 40, .inl pa)), (qb, .inl (cI, 40, .inl pb)), (qc, .inl (cI, 40, .inl po))] H := hP
            have hD : va_D A [(qm, .inr (4, [.int mt, .int mh, .int ma, .int mc, .long m1, .long m2, .long m3, .long m4, .int mp, .ref qa, .ref qb, .ref qc, .int (0 : Int32), .int (1 : Int32), .long mx, .long (-(j3 + (((j5 - j3) / (j4 - j2)) * (((((((j5 - j3) / (j4 - j2)) * ((j5 - j3) / (j4 - j2))) - m1) - j2) - j4) - j2)))), .int mr, .int ml, .int mf, .int ms])), (qa, .inl (cI, 40, .inl pa)), (qb, .inl (cI, 40, .inl pb)), (qc, .inl (cI, 40, .inl po))] := hD
            refine lv_aload_n (pc := 176) hx hb d_md_add_176 rfl (lv_at hl 5 rfl) ?_
            refine lv_lload (pc := 177) hx hb d_md_add_177 (lv_at hl 0 rfl) ?_
            refine va_put (pc := 179) (D := D) (ci := 4) (v := .long ((((((j5 - j3) / (j4 - j2)) * ((j5 - j3) / (j4 - j2))) - m1) - j2) - j4)) (ty := .long) (C := "TorsionDeskModel") (T := tX4) (N := 20) hx hb hB lX4 yX4 yX4_ok nX4 hown hK hP hD hS 0 rfl rfl 14 (by decide) (hB _ zw_431) (fun _ h9 => h9) rfl (by decide +kernel) rfl rfl (Nat.le_of_ble_eq_true rfl) d_md_add_179 (fun H locs hP hD hS => ?_)
            have hP : va_P D vwCl [(qm, .inr (4, [.int mt, .int mh, .int ma, .int mc, .long m1, .long m2, .long m3, .long m4, .int mp, .ref qa, .ref qb, .ref qc, .int (0 : Int32), .int (1 : Int32), .long ((((((j5 - j3) / (j4 - j2)) * ((j5 - j3) / (j4 - j2))) - m1) - j2) - j4), .long (-(j3 + (((j5 - j3) / (j4 - j2)) * (((((((j5 - j3) / (j4 - j2)) * ((j5 - j3) / (j4 - j2))) - m1) - j2) - j4) - j2)))), .int mr, .int ml, .int mf, .int ms])), (qa, .inl (cI, 40, .inl pa)), (qb, .inl (cI, 40, .inl pb)), (qc, .inl (cI, 40, .inl po))] H := hP
            have hD : va_D A [(qm, .inr (4, [.int mt, .int mh, .int ma, .int mc, .long m1, .long m2, .long m3, .long m4, .int mp, .ref qa, .ref qb, .ref qc, .int (0 : Int32), .int (1 : Int32), .long ((((((j5 - j3) / (j4 - j2)) * ((j5 - j3) / (j4 - j2))) - m1) - j2) - j4), .long (-(j3 + (((j5 - j3) / (j4 - j2)) * (((((((j5 - j3) / (j4 - j2)) * ((j5 - j3) / (j4 - j2))) - m1) - j2) - j4) - j2)))), .int mr, .int ml, .int mf, .int ms])), (qa, .inl (cI, 40, .inl pa)), (qb, .inl (cI, 40, .inl pb)), (qc, .inl (cI, 40, .inl po))] := hD
            refine lv_aload_n (pc := 182) hx hb d_md_add_182 rfl (lv_at hl 5 rfl) ?_
            refine lv_lload (pc := 183) hx hb d_md_add_183 (lv_at hl 0 rfl) ?_
            refine lv_ldc2 (pc := 185) (v := (-5000 : Int64)) hx hb hown (hB _ zw_509) d_md_add_185 ?_
            refine zl_lt (pc := 188) (tgt := 205) hx hb d_md_add_188 d_md_add_189 rfl (fun h6 => ?_) (fun h6 => ?_)
            · rw [if_pos h6] at hm
              refine lv_iconst (pc := 205) (v := (0 : Int32)) hx hb d_md_add_205 (by decide) ?_
              refine va_put (pc := 206) (D := D) (ci := 4) (v := .int (0 : Int32)) (ty := .boolean) (C := "TorsionDeskModel") (T := tX4) (N := 20) hx hb hB lX4 yX4 yX4_ok nX4 hown hK hP hD hS 0 rfl rfl 13 (by decide) (hB _ zw_430) (fun _ h9 => h9) rfl (by decide +kernel) rfl rfl (Nat.le_of_ble_eq_true rfl) d_md_add_206 (fun H locs hP hD hS => ?_)
              have hP : va_P D vwCl [(qm, .inr (4, [.int mt, .int mh, .int ma, .int mc, .long m1, .long m2, .long m3, .long m4, .int mp, .ref qa, .ref qb, .ref qc, .int (0 : Int32), .int (0 : Int32), .long ((((((j5 - j3) / (j4 - j2)) * ((j5 - j3) / (j4 - j2))) - m1) - j2) - j4), .long (-(j3 + (((j5 - j3) / (j4 - j2)) * (((((((j5 - j3) / (j4 - j2)) * ((j5 - j3) / (j4 - j2))) - m1) - j2) - j4) - j2)))), .int mr, .int ml, .int mf, .int ms])), (qa, .inl (cI, 40, .inl pa)), (qb, .inl (cI, 40, .inl pb)), (qc, .inl (cI, 40, .inl po))] H := hP
              have hD : va_D A [(qm, .inr (4, [.int mt, .int mh, .int ma, .int mc, .long m1, .long m2, .long m3, .long m4, .int mp, .ref qa, .ref qb, .ref qc, .int (0 : Int32), .int (0 : Int32), .long ((((((j5 - j3) / (j4 - j2)) * ((j5 - j3) / (j4 - j2))) - m1) - j2) - j4), .long (-(j3 + (((j5 - j3) / (j4 - j2)) * (((((((j5 - j3) / (j4 - j2)) * ((j5 - j3) / (j4 - j2))) - m1) - j2) - j4) - j2)))), .int mr, .int ml, .int mf, .int ms])), (qa, .inl (cI, 40, .inl pa)), (qb, .inl (cI, 40, .inl pb)), (qc, .inl (cI, 40, .inl po))] := hD
              cases hm
              rw [hQ]
              exact W.vret (pc := 209) hx hb hr (fun t ht _ => ⟨rfl, by rw [ht]; exact hP, hS.F ht⟩) hS.2.2 d_md_add_209
            rw [if_neg h6] at hm
            refine lv_lload (pc := 192) hx hb d_md_add_192 (lv_at hl 0 rfl) ?_
            refine lv_ldc2 (pc := 194) (v := (5000 : Int64)) hx hb hown (hB _ zw_510) d_md_add_194 ?_
            refine zl_gt (pc := 197) (tgt := 205) hx hb d_md_add_197 d_md_add_198 rfl (fun h7 => ?_) (fun h7 => ?_)
            · rw [if_pos h7] at hm
              refine lv_iconst (pc := 205) (v := (0 : Int32)) hx hb d_md_add_205 (by decide) ?_
              refine va_put (pc := 206) (D := D) (ci := 4) (v := .int (0 : Int32)) (ty := .boolean) (C := "TorsionDeskModel") (T := tX4) (N := 20) hx hb hB lX4 yX4 yX4_ok nX4 hown hK hP hD hS 0 rfl rfl 13 (by decide) (hB _ zw_430) (fun _ h9 => h9) rfl (by decide +kernel) rfl rfl (Nat.le_of_ble_eq_true rfl) d_md_add_206 (fun H locs hP hD hS => ?_)
              have hP : va_P D vwCl [(qm, .inr (4, [.int mt, .int mh, .int ma, .int mc, .long m1, .long m2, .long m3, .long m4, .int mp, .ref qa, .ref qb, .ref qc, .int (0 : Int32), .int (0 : Int32), .long ((((((j5 - j3) / (j4 - j2)) * ((j5 - j3) / (j4 - j2))) - m1) - j2) - j4), .long (-(j3 + (((j5 - j3) / (j4 - j2)) * (((((((j5 - j3) / (j4 - j2)) * ((j5 - j3) / (j4 - j2))) - m1) - j2) - j4) - j2)))), .int mr, .int ml, .int mf, .int ms])), (qa, .inl (cI, 40, .inl pa)), (qb, .inl (cI, 40, .inl pb)), (qc, .inl (cI, 40, .inl po))] H := hP
              have hD : va_D A [(qm, .inr (4, [.int mt, .int mh, .int ma, .int mc, .long m1, .long m2, .long m3, .long m4, .int mp, .ref qa, .ref qb, .ref qc, .int (0 : Int32), .int (0 : Int32), .long ((((((j5 - j3) / (j4 - j2)) * ((j5 - j3) / (j4 - j2))) - m1) - j2) - j4), .long (-(j3 + (((j5 - j3) / (j4 - j2)) * (((((((j5 - j3) / (j4 - j2)) * ((j5 - j3) / (j4 - j2))) - m1) - j2) - j4) - j2)))), .int mr, .int ml, .int mf, .int ms])), (qa, .inl (cI, 40, .inl pa)), (qb, .inl (cI, 40, .inl pb)), (qc, .inl (cI, 40, .inl po))] := hD
              cases hm
              rw [hQ]
              exact W.vret (pc := 209) hx hb hr (fun t ht _ => ⟨rfl, by rw [ht]; exact hP, hS.F ht⟩) hS.2.2 d_md_add_209
            rw [if_neg h7] at hm
            refine lv_iconst (pc := 201) (v := (1 : Int32)) hx hb d_md_add_201 (by decide) ?_
            refine lv_goto (pc := 202) (tgt := 206) hx hb d_md_add_202 rfl ?_
            refine va_put (pc := 206) (D := D) (ci := 4) (v := .int (1 : Int32)) (ty := .boolean) (C := "TorsionDeskModel") (T := tX4) (N := 20) hx hb hB lX4 yX4 yX4_ok nX4 hown hK hP hD hS 0 rfl rfl 13 (by decide) (hB _ zw_430) (fun _ h9 => h9) rfl (by decide +kernel) rfl rfl (Nat.le_of_ble_eq_true rfl) d_md_add_206 (fun H locs hP hD hS => ?_)
            have hP : va_P D vwCl [(qm, .inr (4, [.int mt, .int mh, .int ma, .int mc, .long m1, .long m2, .long m3, .long m4, .int mp, .ref qa, .ref qb, .ref qc, .int (0 : Int32), .int (1 : Int32), .long ((((((j5 - j3) / (j4 - j2)) * ((j5 - j3) / (j4 - j2))) - m1) - j2) - j4), .long (-(j3 + (((j5 - j3) / (j4 - j2)) * (((((((j5 - j3) / (j4 - j2)) * ((j5 - j3) / (j4 - j2))) - m1) - j2) - j4) - j2)))), .int mr, .int ml, .int mf, .int ms])), (qa, .inl (cI, 40, .inl pa)), (qb, .inl (cI, 40, .inl pb)), (qc, .inl (cI, 40, .inl po))] H := hP
            have hD : va_D A [(qm, .inr (4, [.int mt, .int mh, .int ma, .int mc, .long m1, .long m2, .long m3, .long m4, .int mp, .ref qa, .ref qb, .ref qc, .int (0 : Int32), .int (1 : Int32), .long ((((((j5 - j3) / (j4 - j2)) * ((j5 - j3) / (j4 - j2))) - m1) - j2) - j4), .long (-(j3 + (((j5 - j3) / (j4 - j2)) * (((((((j5 - j3) / (j4 - j2)) * ((j5 - j3) / (j4 - j2))) - m1) - j2) - j4) - j2)))), .int mr, .int ml, .int mf, .int ms])), (qa, .inl (cI, 40, .inl pa)), (qb, .inl (cI, 40, .inl pb)), (qc, .inl (cI, 40, .inl po))] := hD
            cases hm
            rw [hQ]
            exact W.vret (pc := 209) hx hb hr (fun t ht _ => ⟨rfl, by rw [ht]; exact hP, hS.F ht⟩) hS.2.2 d_md_add_209
          rw [if_neg h5] at hm
          refine lv_aload_n (pc := 131) hx hb d_md_add_131 rfl (lv_at hl 3 rfl) ?_
          refine lv_iconst (pc := 132) (v := (0 : Int32)) hx hb d_md_add_132 (by decide) ?_
          refine va_put (pc := 133) (D := D) (ci := 4) (v := .int (0 : Int32)) (ty := .boolean) (C := "TorsionDeskModel") (T := tX4) (N := 20) hx hb hB lX4 yX4 yX4_ok nX4 hown hK hP hD hS 0 rfl rfl 13 (by decide) (hB _ zw_430) (fun _ h9 => h9) rfl (by decide +kernel) rfl rfl (Nat.le_of_ble_eq_true rfl) d_md_add_133 (fun H locs hP hD hS => ?_)
          have hP : va_P D vwCl [(qm, .inr (4, [.int mt, .int mh, .int ma, .int mc, .long m1, .long m2, .long m3, .long m4, .int mp, .ref qa, .ref qb, .ref qc, .int (0 : Int32), .int (0 : Int32), .long mx, .long my, .int mr, .int ml, .int mf, .int ms])), (qa, .inl (cI, 40, .inl pa)), (qb, .inl (cI, 40, .inl pb)), (qc, .inl (cI, 40, .inl po))] H := hP
          have hD : va_D A [(qm, .inr (4, [.int mt, .int mh, .int ma, .int mc, .long m1, .long m2, .long m3, .long m4, .int mp, .ref qa, .ref qb, .ref qc, .int (0 : Int32), .int (0 : Int32), .long mx, .long my, .int mr, .int ml, .int mf, .int ms])), (qa, .inl (cI, 40, .inl pa)), (qb, .inl (cI, 40, .inl pb)), (qc, .inl (cI, 40, .inl po))] := hD
          cases hm
          rw [hQ]
          exact W.vret (pc := 136) hx hb hr (fun t ht _ => ⟨rfl, by rw [ht]; exact hP, hS.F ht⟩) hS.2.2 d_md_add_136
        rw [if_pos h3] at hm
        refine lv_iconst (pc := 56) (v := (1 : Int32)) hx hb d_md_add_56 (by decide) ?_
        refine lv_goto (pc := 57) (tgt := 61) hx hb d_md_add_57 rfl ?_
        refine lv_istore (pc := 61) (lv' := [(10, .int (1 : Int32)), (0, .ref qm), (1, .int i1), (2, .long j2), (4, .long j3), (6, .long j4), (8, .long j5)]) hx hb d_md_add_61 hl (Nat.le_of_ble_eq_true rfl) rfl (fun ls hl => ?_)
        refine lv_iload (pc := 63) hx hb d_md_add_63 (lv_at hl 0 rfl) ?_
        refine lv_if_eq (pc := 65) (tgt := 94) hx hb d_md_add_65 rfl (fun h9 => absurd h9 (by decide)) (fun _ => ?_)
        refine lv_ldc2 (pc := 68) (v := (3 : Int64)) hx hb hown (hB _ zw_507) d_md_add_68 ?_
        refine lv_lload_n (pc := 71) hx hb d_md_add_71 rfl (lv_at hl 3 rfl) ?_
        refine lv_lmul (pc := 72) hx hb d_md_add_72 ?_
        refine lv_lload_n (pc := 73) hx hb d_md_add_73 rfl (lv_at hl 3 rfl) ?_
        refine lv_lmul (pc := 74) hx hb d_md_add_74 ?_
        refine lv_ldc2 (pc := 75) (v := (2 : Int64)) hx hb hown (hB _ zw_508) d_md_add_75 ?_
        refine lv_aload_n (pc := 78) hx hb d_md_add_78 rfl (lv_at hl 1 rfl) ?_
        refine va_get (pc := 79) (D := D) (ci := 4) (v := .long m1) (C := "TorsionDeskModel") (T := tX4) (N := 20) hx hb hB lX4 hown hK hP 0 rfl rfl 4 (by decide) (hB _ zw_421) (fun _ h9 => h9) rfl d_md_add_79 ?_
        refine lv_lmul (pc := 82) hx hb d_md_add_82 ?_
        refine lv_lload_n (pc := 83) hx hb d_md_add_83 rfl (lv_at hl 3 rfl) ?_
        refine lv_lmul (pc := 84) hx hb d_md_add_84 ?_
        refine lv_ladd (pc := 85) hx hb d_md_add_85 ?_
        refine lv_aload_n (pc := 86) hx hb d_md_add_86 rfl (lv_at hl 1 rfl) ?_
        refine va_get (pc := 87) (D := D) (ci := 4) (v := .long m2) (C := "TorsionDeskModel") (T := tX4) (N := 20) hx hb hB lX4 hown hK hP 0 rfl rfl 5 (by decide) (hB _ zw_422) (fun _ h9 => h9) rfl d_md_add_87 ?_
        refine lv_ladd (pc := 90) hx hb d_md_add_90 ?_
        refine lv_goto (pc := 91) (tgt := 99) hx hb d_md_add_91 rfl ?_
        refine lv_lstore (pc := 99) (lv' := [(11, .long (((((3 : Int64) * j2) * j2) + (((2 : Int64) * m1) * j2)) + m2)), (10, .int (1 : Int32)), (0, .ref qm), (1, .int i1), (2, .long j2), (4, .long j3), (6, .long j4), (8, .long j5)]) hx hb d_md_add_99 hl (Nat.le_of_ble_eq_true rfl) rfl (fun ls hl => ?_)
        refine lv_iload (pc := 101) hx hb d_md_add_101 (lv_at hl 1 rfl) ?_
        refine lv_if_eq (pc := 103) (tgt := 115) hx hb d_md_add_103 rfl (fun h9 => absurd h9 (by decide)) (fun _ => ?_)
        refine lv_ldc2 (pc := 106) (v := (2 : Int64)) hx hb hown (hB _ zw_508) d_md_add_106 ?_
        refine lv_lload (pc := 109) hx hb d_md_add_109 (lv_at hl 5 rfl) ?_
        refine lv_lmul (pc := 111) hx hb d_md_add_111 ?_
        refine lv_goto (pc := 112) (tgt := 119) hx hb d_md_add_112 rfl ?_
        refine lv_lstore (pc := 119) (lv' := [(13, .long ((2 : Int64) * j3)), (11, .long (((((3 : Int64) * j2) * j2) + (((2 : Int64) * m1) * j2)) + m2)), (10, .int (1 : Int32)), (0, .ref qm), (1, .int i1), (2, .long j2), (4, .long j3), (6, .long j4), (8, .long j5)]) hx hb d_md_add_119 hl (Nat.le_of_ble_eq_true rfl) rfl (fun ls hl => ?_)
        refine lv_lload (pc := 121) hx hb d_md_add_121 (lv_at hl 1 rfl) ?_
        refine lv_lload (pc := 123) hx hb d_md_add_123 (lv_at hl 0 rfl) ?_
        by_cases g8 : ((2 : Int64) * j3) = 0
        · rw [if_pos g8] at hm; cases hm
        rw [if_neg g8] at hm
        refine lv_lrem (pc := 125) hx hb d_md_add_125 g8 ?_
        refine lv_lconst (pc := 126) (v := (0 : Int64)) hx hb d_md_add_126 (by decide) ?_
        refine zl_eq (pc := 127) (tgt := 137) hx hb d_md_add_127 d_md_add_128 rfl (fun h9 => ?_) (fun h9 => ?_)
        · rw [if_pos h9] at hm
          refine lv_lload (pc := 137) hx hb d_md_add_137 (lv_at hl 1 rfl) ?_
          refine lv_lload (pc := 139) hx hb d_md_add_139 (lv_at hl 0 rfl) ?_
          refine lv_ldiv (pc := 141) hx hb d_md_add_141 g8 ?_
          refine lv_lstore (pc := 142) (lv' := [(15, .long ((((((3 : Int64) * j2) * j2) + (((2 : Int64) * m1) * j2)) + m2) / ((2 : Int64) * j3))), (13, .long ((2 : Int64) * j3)), (11, .long (((((3 : Int64) * j2) * j2) + (((2 : Int64) * m1) * j2)) + m2)), (10, .int (1 : Int32)), (0, .ref qm), (1, .int i1), (2, .long j2), (4, .long j3), (6, .long j4), (8, .long j5)]) hx hb d_md_add_142 hl (Nat.le_of_ble_eq_true rfl) rfl (fun ls hl => ?_)
          refine lv_lload (pc := 144) hx hb d_md_add_144 (lv_at hl 0 rfl) ?_
          refine lv_lload (pc := 146) hx hb d_md_add_146 (lv_at hl 0 rfl) ?_
          refine lv_lmul (pc := 148) hx hb d_md_add_148 ?_
          refine lv_aload_n (pc := 149) hx hb d_md_add_149 rfl (lv_at hl 4 rfl) ?_
          refine va_get (pc := 150) (D := D) (ci := 4) (v := .long m1) (C := "TorsionDeskModel") (T := tX4) (N := 20) hx hb hB lX4 hown hK hP 0 rfl rfl 4 (by decide) (hB _ zw_421) (fun _ h9 => h9) rfl d_md_add_150 ?_
          refine lv_lsub (pc := 153) hx hb d_md_add_153 ?_
          refine lv_lload_n (pc := 154) hx hb d_md_add_154 rfl (lv_at hl 6 rfl) ?_
          refine lv_lsub (pc := 155) hx hb d_md_add_155 ?_
          refine lv_lload (pc := 156) hx hb d_md_add_156 (lv_at hl 8 rfl) ?_
          refine lv_lsub (pc := 158) hx hb d_md_add_158 ?_
          refine lv_lstore (pc := 159) (lv' := [(17, .long ((((((((((3 : Int64) * j2) * j2) + (((2 : Int64) * m1) * j2)) + m2) / ((2 : Int64) * j3)) * ((((((3 : Int64) * j2) * j2) + (((2 : Int64) * m1) * j2)) + m2) / ((2 : Int64) * j3))) - m1) - j2) - j4)), (15, .long ((((((3 : Int64) * j2) * j2) + (((2 : Int64) * m1) * j2)) + m2) / ((2 : Int64) * j3))), (13, .long ((2 : Int64) * j3)), (11, .long (((((3 : Int64) * j2) * j2) + (((2 : Int64) * m1) * j2)) + m2)), (10, .int (1 : Int32)), (0, .ref qm), (1, .int i1), (2, .long j2), (4, .long j3), (6, .long j4), (8, .long j5)]) hx hb d_md_add_159 hl (Nat.le_of_ble_eq_true rfl) rfl (fun ls hl => ?_)
          refine lv_aload_n (pc := 161) hx hb d_md_add_161 rfl (lv_at hl 5 rfl) ?_
          refine lv_lload (pc := 162) hx hb d_md_add_162 (lv_at hl 8 rfl) ?_
          refine lv_lload (pc := 164) hx hb d_md_add_164 (lv_at hl 1 rfl) ?_
          refine lv_lload (pc := 166) hx hb d_md_add_166 (lv_at hl 0 rfl) ?_
          refine lv_lload_n (pc := 168) hx hb d_md_add_168 rfl (lv_at hl 7 rfl) ?_
          refine lv_lsub (pc := 169) hx hb d_md_add_169 ?_
          refine lv_lmul (pc := 170) hx hb d_md_add_170 ?_
          refine lv_ladd (pc := 171) hx hb d_md_add_171 ?_
          refine lv_lneg (pc := 172) hx hb d_md_add_172 ?_
          refine va_put (pc := 173) (D := D) (ci := 4) (v := .long (-(j3 + (((((((3 : Int64) * j2) * j2) + (((2 : Int64) * m1) * j2)) + m2) / ((2 : Int64) * j3)) * (((((((((((3 : Int64) * j2) * j2) + (((2 : Int64) * m1) * j2)) + m2) / ((2 : Int64) * j3)) * ((((((3 : Int64) * j2) * j2) + (((2 : Int64) * m1) * j2)) + m2) / ((2 : Int64) * j3))) - m1) - j2) - j4) - j2))))) (ty := .long) (C := "TorsionDeskModel") (T := tX4) (N := 20) hx hb hB lX4 yX4 yX4_ok nX4 hown hK hP hD hS 0 rfl rfl 15 (by decide) (hB _ zw_432) (fun _ h9 => h9) rfl (by decide +kernel) rfl rfl (Nat.le_of_ble_eq_true rfl) d_md_add_173 (fun H locs hP hD hS => ?_)
          have hP : va_P D vwCl [(qm, .inr (4, [.int mt, .int mh, .int ma, .int mc, .long m1, .long m2, .long m3, .long m4, .int mp, .ref qa, .ref qb, .ref qc, .int (0 : Int32), .int (1 : Int32), .long mx, .long (-(j3 + (((((((3 : Int64) * j2) * j2) + (((2 : Int64) * m1) * j2)) + m2) / ((2 : Int64) * j3)) * (((((((((((3 : Int64) * j2) * j2) + (((2 : Int64) * m1) * j2)) + m2) / ((2 : Int64) * j3)) * ((((((3 : Int64) * j2) * j2) + (((2 : Int64) * m1) * j2)) + m2) / ((2 : Int64) * j3))) - m1) - j2) - j4) - j2)))), .int mr, .int ml, .int mf, .int ms])), (qa, .inl (cI, 40, .inl pa)), (qb, .inl (cI, 40, .inl pb)), (qc, .inl (cI, 40, .inl po))] H := hP
          have hD : va_D A [(qm, .inr (4, [.int mt, .int mh, .int ma, .int mc, .long m1, .long m2, .long m3, .long m4, .int mp, .ref qa, .ref qb, .ref qc, .int (0 : Int32), .int (1 : Int32), .long mx, .long (-(j3 + (((((((3 : Int64) * j2) * j2) + (((2 : Int64) * m1) * j2)) + m2) / ((2 : Int64) * j3)) * (((((((((((3 : Int64) * j2) * j2) + (((2 : Int64) * m1) * j2)) + m2) / ((2 : Int64) * j3)) * ((((((3 : Int64) * j2) * j2) + (((2 : Int64) * m1) * j2)) + m2) / ((2 : Int64) * j3))) - m1) - j2) - j4) - j2)))), .int mr, .int ml, .int mf, .int ms])), (qa, .inl (cI, 40, .inl pa)), (qb, .inl (cI, 40, .inl pb)), (qc, .inl (cI, 40, .inl po))] := hD
          refine lv_aload_n (pc := 176) hx hb d_md_add_176 rfl (lv_at hl 5 rfl) ?_
          refine lv_lload (pc := 177) hx hb d_md_add_177 (lv_at hl 0 rfl) ?_
          refine va_put (pc := 179) (D := D) (ci := 4) (v := .long ((((((((((3 : Int64) * j2) * j2) + (((2 : Int64) * m1) * j2)) + m2) / ((2 : Int64) * j3)) * ((((((3 : Int64) * j2) * j2) + (((2 : Int64) * m1) * j2)) + m2) / ((2 : Int64) * j3))) - m1) - j2) - j4)) (ty := .long) (C := "TorsionDeskModel") (T := tX4) (N := 20) hx hb hB lX4 yX4 yX4_ok nX4 hown hK hP hD hS 0 rfl rfl 14 (by decide) (hB _ zw_431) (fun _ h9 => h9) rfl (by decide +kernel) rfl rfl (Nat.le_of_ble_eq_true rfl) d_md_add_179 (fun H locs hP hD hS => ?_)
          have hP : va_P D vwCl [(qm, .inr (4, [.int mt, .int mh, .int ma, .int mc, .long m1, .long m2, .long m3, .long m4, .int mp, .ref qa, .ref qb, .ref qc, .int (0 : Int32), .int (1 : Int32), .long ((((((((((3 : Int64) * j2) * j2) + (((2 : Int64) * m1) * j2)) + m2) / ((2 : Int64) * j3)) * ((((((3 : Int64) * j2) * j2) + (((2 : Int64) * m1) * j2)) + m2) / ((2 : Int64) * j3))) - m1) - j2) - j4), .long (-(j3 + (((((((3 : Int64) * j2) * j2) + (((2 : Int64) * m1) * j2)) + m2) / ((2 : Int64) * j3)) * (((((((((((3 : Int64) * j2) * j2) + (((2 : Int64) * m1) * j2)) + m2) / ((2 : Int64) * j3)) * ((((((3 : Int64) * j2) * j2) + (((2 : Int64) * m1) * j2)) + m2) / ((2 : Int64) * j3))) - m1) - j2) - j4) - j2)))), .int mr, .int ml, .int mf, .int ms])), (qa, .inl (cI, 40, .inl pa)), (qb, .inl (cI, 40, .inl pb)), (qc, .inl (cI, 40, .inl po))] H := hP
          have hD : va_D A [(qm, .inr (4, [.int mt, .int mh, .int ma, .int mc, .long m1, .long m2, .long m3, .long m4, .int mp, .ref qa, .ref qb, .ref qc, .int (0 : Int32), .int (1 : Int32), .long ((((((((((3 : Int64) * j2) * j2) + (((2 : Int64) * m1) * j2)) + m2) / ((2 : Int64) * j3)) * ((((((3 : Int64) * j2) * j2) + (((2 : Int64) * m1) * j2)) + m2) / ((2 : Int64) * j3))) - m1) - j2) - j4), .long (-(j3 + (((((((3 : Int64) * j2) * j2) + (((2 : Int64) * m1) * j2)) + m2) / ((2 : Int64) * j3)) * (((((((((((3 : Int64) * j2) * j2) + (((2 : Int64) * m1) * j2)) + m2) / ((2 : Int64) * j3)) * ((((((3 : Int64) * j2) * j2) + (((2 : Int64) * m1) * j2)) + m2) / ((2 : Int64) * j3))) - m1) - j2) - j4) - j2)))), .int mr, .int ml, .int mf, .int ms])), (qa, .inl (cI, 40, .inl pa)), (qb, .inl (cI, 40, .inl pb)), (qc, .inl (cI, 40, .inl po))] := hD
          refine lv_aload_n (pc := 182) hx hb d_md_add_182 rfl (lv_at hl 5 rfl) ?_
          refine lv_lload (pc := 183) hx hb d_md_add_183 (lv_at hl 0 rfl) ?_
          refine lv_ldc2 (pc := 185) (v := (-5000 : Int64)) hx hb hown (hB _ zw_509) d_md_add_185 ?_
          refine zl_lt (pc := 188) (tgt := 205) hx hb d_md_add_188 d_md_add_189 rfl (fun h10 => ?_) (fun h10 => ?_)
          · rw [if_pos h10] at hm
            refine lv_iconst (pc := 205) (v := (0 : Int32)) hx hb d_md_add_205 (by decide) ?_
            refine va_put (pc := 206) (D := D) (ci := 4) (v := .int (0 : Int32)) (ty := .boolean) (C := "TorsionDeskModel") (T := tX4) (N := 20) hx hb hB lX4 yX4 yX4_ok nX4 hown hK hP hD hS 0 rfl rfl 13 (by decide) (hB _ zw_430) (fun _ h9 => h9) rfl (by decide +kernel) rfl rfl (Nat.le_of_ble_eq_true rfl) d_md_add_206 (fun H locs hP hD hS => ?_)
            have hP : va_P D vwCl [(qm, .inr (4, [.int mt, .int mh, .int ma, .int mc, .long m1, .long m2, .long m3, .long m4, .int mp, .ref qa, .ref qb, .ref qc, .int (0 : Int32), .int (0 : Int32), .long ((((((((((3 : Int64) * j2) * j2) + (((2 : Int64) * m1) * j2)) + m2) / ((2 : Int64) * j3)) * ((((((3 : Int64) * j2) * j2) + (((2 : Int64) * m1) * j2)) + m2) / ((2 : Int64) * j3))) - m1) - j2) - j4), .long (-(j3 + (((((((3 : Int64) * j2) * j2) + (((2 : Int64) * m1) * j2)) + m2) / ((2 : Int64) * j3)) * (((((((((((3 : Int64) * j2) * j2) + (((2 : Int64) * m1) * j2)) + m2) / ((2 : Int64) * j3)) * ((((((3 : Int64) * j2) * j2) + (((2 : Int64) * m1) * j2)) + m2) / ((2 : Int64) * j3))) - m1) - j2) - j4) - j2)))), .int mr, .int ml, .int mf, .int ms])), (qa, .inl (cI, 40, .inl pa)), (qb, .inl (cI, 40, .inl pb)), (qc, .inl (cI, 40, .inl po))] H := hP
            have hD : va_D A [(qm, .inr (4, [.int mt, .int mh, .int ma, .int mc, .long m1, .long m2, .long m3, .long m4, .int mp, .ref qa, .ref qb, .ref qc, .int (0 : Int32), .int (0 : Int32), .long ((((((((((3 : Int64) * j2) * j2) + (((2 : Int64) * m1) * j2)) + m2) / ((2 : Int64) * j3)) * ((((((3 : Int64) * j2) * j2) + (((2 : Int64) * m1) * j2)) + m2) / ((2 : Int64) * j3))) - m1) - j2) - j4), .long (-(j3 + (((((((3 : Int64) * j2) * j2) + (((2 : Int64) * m1) * j2)) + m2) / ((2 : Int64) * j3)) * (((((((((((3 : Int64) * j2) * j2) + (((2 : Int64) * m1) * j2)) + m2) / ((2 : Int64) * j3)) * ((((((3 : Int64) * j2) * j2) + (((2 : Int64) * m1) * j2)) + m2) / ((2 : Int64) * j3))) - m1) - j2) - j4) - j2)))), .int mr, .int ml, .int mf, .int ms])), (qa, .inl (cI, 40, .inl pa)), (qb, .inl (cI, 40, .inl pb)), (qc, .inl (cI, 40, .inl po))] := hD
            cases hm
            rw [hQ]
            exact W.vret (pc := 209) hx hb hr (fun t ht _ => ⟨rfl, by rw [ht]; exact hP, hS.F ht⟩) hS.2.2 d_md_add_209
          rw [if_neg h10] at hm
          refine lv_lload (pc := 192) hx hb d_md_add_192 (lv_at hl 0 rfl) ?_
          refine lv_ldc2 (pc := 194) (v := (5000 : Int64)) hx hb hown (hB _ zw_510) d_md_add_194 ?_
          refine zl_gt (pc := 197) (tgt := 205) hx hb d_md_add_197 d_md_add_198 rfl (fun h11 => ?_) (fun h11 => ?_)
          · rw [if_pos h11] at hm
            refine lv_iconst (pc := 205) (v := (0 : Int32)) hx hb d_md_add_205 (by decide) ?_
            refine va_put (pc := 206) (D := D) (ci := 4) (v := .int (0 : Int32)) (ty := .boolean) (C := "TorsionDeskModel") (T := tX4) (N := 20) hx hb hB lX4 yX4 yX4_ok nX4 hown hK hP hD hS 0 rfl rfl 13 (by decide) (hB _ zw_430) (fun _ h9 => h9) rfl (by decide +kernel) rfl rfl (Nat.le_of_ble_eq_true rfl) d_md_add_206 (fun H locs hP hD hS => ?_)
            have hP : va_P D vwCl [(qm, .inr (4, [.int mt, .int mh, .int ma, .int mc, .long m1, .long m2, .long m3, .long m4, .int mp, .ref qa, .ref qb, .ref qc, .int (0 : Int32), .int (0 : Int32), .long ((((((((((3 : Int64) * j2) * j2) + (((2 : Int64) * m1) * j2)) + m2) / ((2 : Int64) * j3)) * ((((((3 : Int64) * j2) * j2) + (((2 : Int64) * m1) * j2)) + m2) / ((2 : Int64) * j3))) - m1) - j2) - j4), .long (-(j3 + (((((((3 : Int64) * j2) * j2) + (((2 : Int64) * m1) * j2)) + m2) / ((2 : Int64) * j3)) * (((((((((((3 : Int64) * j2) * j2) + (((2 : Int64) * m1) * j2)) + m2) / ((2 : Int64) * j3)) * ((((((3 : Int64) * j2) * j2) + (((2 : Int64) * m1) * j2)) + m2) / ((2 : Int64) * j3))) - m1) - j2) - j4) - j2)))), .int mr, .int ml, .int mf, .int ms])), (qa, .inl (cI, 40, .inl pa)), (qb, .inl (cI, 40, .inl pb)), (qc, .inl (cI, 40, .inl po))] H := hP
            have hD : va_D A [(qm, .inr (4, [.int mt, .int mh, .int ma, .int mc, .long m1, .long m2, .long m3, .long m4, .int mp, .ref qa, .ref qb, .ref qc, .int (0 : Int32), .int (0 : Int32), .long ((((((((((3 : Int64) * j2) * j2) + (((2 : Int64) * m1) * j2)) + m2) / ((2 : Int64) * j3)) * ((((((3 : Int64) * j2) * j2) + (((2 : Int64) * m1) * j2)) + m2) / ((2 : Int64) * j3))) - m1) - j2) - j4), .long (-(j3 + (((((((3 : Int64) * j2) * j2) + (((2 : Int64) * m1) * j2)) + m2) / ((2 : Int64) * j3)) * (((((((((((3 : Int64) * j2) * j2) + (((2 : Int64) * m1) * j2)) + m2) / ((2 : Int64) * j3)) * ((((((3 : Int64) * j2) * j2) + (((2 : Int64) * m1) * j2)) + m2) / ((2 : Int64) * j3))) - m1) - j2) - j4) - j2)))), .int mr, .int ml, .int mf, .int ms])), (qa, .inl (cI, 40, .inl pa)), (qb, .inl (cI, 40, .inl pb)), (qc, .inl (cI, 40, .inl po))] := hD
            cases hm
            rw [hQ]
            exact W.vret (pc := 209) hx hb hr (fun t ht _ => ⟨rfl, by rw [ht]; exact hP, hS.F ht⟩) hS.2.2 d_md_add_209
          rw [if_neg h11] at hm
          refine lv_iconst (pc := 201) (v := (1 : Int32)) hx hb d_md_add_201 (by decide) ?_
          refine lv_goto (pc := 202) (tgt := 206) hx hb d_md_add_202 rfl ?_
          refine va_put (pc := 206) (D := D) (ci := 4) (v := .int (1 : Int32)) (ty := .boolean) (C := "TorsionDeskModel") (T := tX4) (N := 20) hx hb hB lX4 yX4 yX4_ok nX4 hown hK hP hD hS 0 rfl rfl 13 (by decide) (hB _ zw_430) (fun _ h9 => h9) rfl (by decide +kernel) rfl rfl (Nat.le_of_ble_eq_true rfl) d_md_add_206 (fun H locs hP hD hS => ?_)
          have hP : va_P D vwCl [(qm, .inr (4, [.int mt, .int mh, .int ma, .int mc, .long m1, .long m2, .long m3, .long m4, .int mp, .ref qa, .ref qb, .ref qc, .int (0 : Int32), .int (1 : Int32), .long ((((((((((3 : Int64) * j2) * j2) + (((2 : Int64) * m1) * j2)) + m2) / ((2 : Int64) * j3)) * ((((((3 : Int64) * j2) * j2) + (((2 : Int64) * m1) * j2)) + m2) / ((2 : Int64) * j3))) - m1) - j2) - j4), .long (-(j3 + (((((((3 : Int64) * j2) * j2) + (((2 : Int64) * m1) * j2)) + m2) / ((2 : Int64) * j3)) * (((((((((((3 : Int64) * j2) * j2) + (((2 : Int64) * m1) * j2)) + m2) / ((2 : Int64) * j3)) * ((((((3 : Int64) * j2) * j2) + (((2 : Int64) * m1) * j2)) + m2) / ((2 : Int64) * j3))) - m1) - j2) - j4) - j2)))), .int mr, .int ml, .int mf, .int ms])), (qa, .inl (cI, 40, .inl pa)), (qb, .inl (cI, 40, .inl pb)), (qc, .inl (cI, 40, .inl po))] H := hP
          have hD : va_D A [(qm, .inr (4, [.int mt, .int mh, .int ma, .int mc, .long m1, .long m2, .long m3, .long m4, .int mp, .ref qa, .ref qb, .ref qc, .int (0 : Int32), .int (1 : Int32), .long ((((((((((3 : Int64) * j2) * j2) + (((2 : Int64) * m1) * j2)) + m2) / ((2 : Int64) * j3)) * ((((((3 : Int64) * j2) * j2) + (((2 : Int64) * m1) * j2)) + m2) / ((2 : Int64) * j3))) - m1) - j2) - j4), .long (-(j3 + (((((((3 : Int64) * j2) * j2) + (((2 : Int64) * m1) * j2)) + m2) / ((2 : Int64) * j3)) * (((((((((((3 : Int64) * j2) * j2) + (((2 : Int64) * m1) * j2)) + m2) / ((2 : Int64) * j3)) * ((((((3 : Int64) * j2) * j2) + (((2 : Int64) * m1) * j2)) + m2) / ((2 : Int64) * j3))) - m1) - j2) - j4) - j2)))), .int mr, .int ml, .int mf, .int ms])), (qa, .inl (cI, 40, .inl pa)), (qb, .inl (cI, 40, .inl pb)), (qc, .inl (cI, 40, .inl po))] := hD
          cases hm
          rw [hQ]
          exact W.vret (pc := 209) hx hb hr (fun t ht _ => ⟨rfl, by rw [ht]; exact hP, hS.F ht⟩) hS.2.2 d_md_add_209
        rw [if_neg h9] at hm
        refine lv_aload_n (pc := 131) hx hb d_md_add_131 rfl (lv_at hl 3 rfl) ?_
        refine lv_iconst (pc := 132) (v := (0 : Int32)) hx hb d_md_add_132 (by decide) ?_
        refine va_put (pc := 133) (D := D) (ci := 4) (v := .int (0 : Int32)) (ty := .boolean) (C := "TorsionDeskModel") (T := tX4) (N := 20) hx hb hB lX4 yX4 yX4_ok nX4 hown hK hP hD hS 0 rfl rfl 13 (by decide) (hB _ zw_430) (fun _ h9 => h9) rfl (by decide +kernel) rfl rfl (Nat.le_of_ble_eq_true rfl) d_md_add_133 (fun H locs hP hD hS => ?_)
        have hP : va_P D vwCl [(qm, .inr (4, [.int mt, .int mh, .int ma, .int mc, .long m1, .long m2, .long m3, .long m4, .int mp, .ref qa, .ref qb, .ref qc, .int (0 : Int32), .int (0 : Int32), .long mx, .long my, .int mr, .int ml, .int mf, .int ms])), (qa, .inl (cI, 40, .inl pa)), (qb, .inl (cI, 40, .inl pb)), (qc, .inl (cI, 40, .inl po))] H := hP
        have hD : va_D A [(qm, .inr (4, [.int mt, .int mh, .int ma, .int mc, .long m1, .long m2, .long m3, .long m4, .int mp, .ref qa, .ref qb, .ref qc, .int (0 : Int32), .int (0 : Int32), .long mx, .long my, .int mr, .int ml, .int mf, .int ms])), (qa, .inl (cI, 40, .inl pa)), (qb, .inl (cI, 40, .inl pb)), (qc, .inl (cI, 40, .inl po))] := hD
        cases hm
        rw [hQ]
        exact W.vret (pc := 136) hx hb hr (fun t ht _ => ⟨rfl, by rw [ht]; exact hP, hS.F ht⟩) hS.2.2 d_md_add_136
      rw [if_pos h2] at hm
      refine lv_lload (pc := 34) hx hb d_md_add_34 (lv_at hl 3 rfl) ?_
      refine lv_lload (pc := 36) hx hb d_md_add_36 (lv_at hl 5 rfl) ?_
      refine lv_lneg (pc := 38) hx hb d_md_add_38 ?_
      refine zl_ne (pc := 39) (tgt := 49) hx hb d_md_add_39 d_md_add_40 rfl (fun h12 => ?_) (fun h12 => ?_)
      · rw [if_neg h12] at hm
        refine lv_lload_n (pc := 49) hx hb d_md_add_49 rfl (lv_at hl 2 rfl) ?_
        refine lv_lload (pc := 50) hx hb d_md_add_50 (lv_at hl 4 rfl) ?_
        refine zl_ne (pc := 52) (tgt := 60) hx hb d_md_add_52 d_md_add_53 rfl (fun h13 => ?_) (fun h13 => ?_)
        · rw [if_neg h13] at hm
          refine lv_iconst (pc := 60) (v := (0 : Int32)) hx hb d_md_add_60 (by decide) ?_
          refine lv_istore (pc := 61) (lv' := [(10, .int (0 : Int32)), (0, .ref qm), (1, .int i1), (2, .long j2), (4, .long j3), (6, .long j4), (8, .long j5)]) hx hb d_md_add_61 hl (Nat.le_of_ble_eq_true rfl) rfl (fun ls hl => ?_)
          refine lv_iload (pc := 63) hx hb d_md_add_63 (lv_at hl 0 rfl) ?_
          refine lv_if_eq (pc := 65) (tgt := 94) hx hb d_md_add_65 rfl (fun _ => ?_) (fun h9 => absurd (by decide) h9)
          refine lv_lload (pc := 94) hx hb d_md_add_94 (lv_at hl 6 rfl) ?_
          refine lv_lload (pc := 96) hx hb d_md_add_96 (lv_at hl 4 rfl) ?_
          refine lv_lsub (pc := 98) hx hb d_md_add_98 ?_
          refine lv_lstore (pc := 99) (lv' := [(11, .long (j5 - j3)), (10, .int (0 : Int32)), (0, .ref qm), (1, .int i1), (2, .long j2), (4, .long j3), (6, .long j4), (8, .long j5)]) hx hb d_md_add_99 hl (Nat.le_of_ble_eq_true rfl) rfl (fun ls hl => ?_)
          refine lv_iload (pc := 101) hx hb d_md_add_101 (lv_at hl 1 rfl) ?_
          refine lv_if_eq (pc := 103) (tgt := 115) hx hb d_md_add_103 rfl (fun _ => ?_) (fun h9 => absurd (by decide) h9)
          refine lv_lload (pc := 115) hx hb d_md_add_115 (lv_at hl 6 rfl) ?_
          refine lv_lload_n (pc := 117) hx hb d_md_add_117 rfl (lv_at hl 4 rfl) ?_
          refine lv_lsub (pc := 118) hx hb d_md_add_118 ?_
          refine lv_lstore (pc := 119) (lv' := [(13, .long (j4 - j2)), (11, .long (j5 - j3)), (10, .int (0 : Int32)), (0, .ref qm), (1, .int i1), (2, .long j2), (4, .long j3), (6, .long j4), (8, .long j5)]) hx hb d_md_add_119 hl (Nat.le_of_ble_eq_true rfl) rfl (fun ls hl => ?_)
          refine lv_lload (pc := 121) hx hb d_md_add_121 (lv_at hl 1 rfl) ?_
          refine lv_lload (pc := 123) hx hb d_md_add_123 (lv_at hl 0 rfl) ?_
          by_cases g14 : (j4 - j2) = 0
          · rw [if_pos g14] at hm; cases hm
          rw [if_neg g14] at hm
          refine lv_lrem (pc := 125) hx hb d_md_add_125 g14 ?_
          refine lv_lconst (pc := 126) (v := (0 : Int64)) hx hb d_md_add_126 (by decide) ?_
          refine zl_eq (pc := 127) (tgt := 137) hx hb d_md_add_127 d_md_add_128 rfl (fun h15 => ?_) (fun h15 => ?_)
          · rw [if_pos h15] at hm
            refine lv_lload (pc := 137) hx hb d_md_add_137 (lv_at hl 1 rfl) ?_
            refine lv_lload (pc := 139) hx hb d_md_add_139 (lv_at hl 0 rfl) ?_
            refine lv_ldiv (pc := 141) hx hb d_md_add_141 g14 ?_
            refine lv_lstore (pc := 142) (lv' := [(15, .long ((j5 - j3) / (j4 - j2))), (13, .long (j4 - j2)), (11, .long (j5 - j3)), (10, .int (0 : Int32)), (0, .ref qm), (1, .int i1), (2, .long j2), (4, .long j3), (6, .long j4), (8, .long j5)]) hx hb d_md_add_142 hl (Nat.le_of_ble_eq_true rfl) rfl (fun ls hl => ?_)
            refine lv_lload (pc := 144) hx hb d_md_add_144 (lv_at hl 0 rfl) ?_
            refine lv_lload (pc := 146) hx hb d_md_add_146 (lv_at hl 0 rfl) ?_
            refine lv_lmul (pc := 148) hx hb d_md_add_148 ?_
            refine lv_aload_n (pc := 149) hx hb d_md_add_149 rfl (lv_at hl 4 rfl) ?_
            refine va_get (pc := 150) (D := D) (ci := 4) (v := .long m1) (C := "TorsionDeskModel") (T := tX4) (N := 20) hx hb hB lX4 hown hK hP 0 rfl rfl 4 (by decide) (hB _ zw_421) (fun _ h9 => h9) rfl d_md_add_150 ?_
            refine lv_lsub (pc := 153) hx hb d_md_add_153 ?_
            refine lv_lload_n (pc := 154) hx hb d_md_add_154 rfl (lv_at hl 6 rfl) ?_
            refine lv_lsub (pc := 155) hx hb d_md_add_155 ?_
            refine lv_lload (pc := 156) hx hb d_md_add_156 (lv_at hl 8 rfl) ?_
            refine lv_lsub (pc := 158) hx hb d_md_add_158 ?_
            refine lv_lstore (pc := 159) (lv' := [(17, .long ((((((j5 - j3) / (j4 - j2)) * ((j5 - j3) / (j4 - j2))) - m1) - j2) - j4)), (15, .long ((j5 - j3) / (j4 - j2))), (13, .long (j4 - j2)), (11, .long (j5 - j3)), (10, .int (0 : Int32)), (0, .ref qm), (1, .int i1), (2, .long j2), (4, .long j3), (6, .long j4), (8, .long j5)]) hx hb d_md_add_159 hl (Nat.le_of_ble_eq_true rfl) rfl (fun ls hl => ?_)
            refine lv_aload_n (pc := 161) hx hb d_md_add_161 rfl (lv_at hl 5 rfl) ?_
            refine lv_lload (pc := 162) hx hb d_md_add_162 (lv_at hl 8 rfl) ?_
            refine lv_lload (pc := 164) hx hb d_md_add_164 (lv_at hl 1 rfl) ?_
            refine lv_lload (pc := 166) hx hb d_md_add_166 (lv_at hl 0 rfl) ?_
            refine lv_lload_n (pc := 168) hx hb d_md_add_168 rfl (lv_at hl 7 rfl) ?_
            refine lv_lsub (pc := 169) hx hb d_md_add_169 ?_
            refine lv_lmul (pc := 170) hx hb d_md_add_170 ?_
            refine lv_ladd (pc := 171) hx hb d_md_add_171 ?_
            refine lv_lneg (pc := 172) hx hb d_md_add_172 ?_
            refine va_put (pc := 173) (D := D) (ci := 4) (v := .long (-(j3 + (((j5 - j3) / (j4 - j2)) * (((((((j5 - j3) / (j4 - j2)) * ((j5 - j3) / (j4 - j2))) - m1) - j2) - j4) - j2))))) (ty := .long) (C := "TorsionDeskModel") (T := tX4) (N := 20) hx hb hB lX4 yX4 yX4_ok nX4 hown hK hP hD hS 0 rfl rfl 15 (by decide) (hB _ zw_432) (fun _ h9 => h9) rfl (by decide +kernel) rfl rfl (Nat.le_of_ble_eq_true rfl) d_md_add_173 (fun H locs hP hD hS => ?_)
            have hP : va_P D vwCl [(qm, .inr (4, [.int mt, .int mh, .int ma, .int mc, .long m1, .long m2, .long m3, .long m4, .int mp, .ref qa, .ref qb, .ref qc, .int (0 : Int32), .int (1 : Int32), .long mx, .long (-(j3 + (((j5 - j3) / (j4 - j2)) * (((((((j5 - j3) / (j4 - j2)) * ((j5 - j3) / (j4 - j2))) - m1) - j2) - j4) - j2)))), .int mr, .int ml, .int mf, .int ms])), (qa, .inl (cI, 40, .inl pa)), (qb, .inl (cI, 40, .inl pb)), (qc, .inl (cI, 40, .inl po))] H := hP
            have hD : va_D A [(qm, .inr (4, [.int mt, .int mh, .int ma, .int mc, .long m1, .long m2, .long m3, .long m4, .int mp, .ref qa, .ref qb, .ref qc, .int (0 : Int32), .int (1 : Int32), .long mx, .long (-(j3 + (((j5 - j3) / (j4 - j2)) * (((((((j5 - j3) / (j4 - j2)) * ((j5 - j3) / (j4 - j2))) - m1) - j2) - j4) - j2)))), .int mr, .int ml, .int mf, .int ms])), (qa, .inl (cI, 40, .inl pa)), (qb, .inl (cI, 40, .inl pb)), (qc, .inl (cI, 40, .inl po))] := hD
            refine lv_aload_n (pc := 176) hx hb d_md_add_176 rfl (lv_at hl 5 rfl) ?_
            refine lv_lload (pc := 177) hx hb d_md_add_177 (lv_at hl 0 rfl) ?_
            refine va_put (pc := 179) (D := D) (ci := 4) (v := .long ((((((j5 - j3) / (j4 - j2)) * ((j5 - j3) / (j4 - j2))) - m1) - j2) - j4)) (ty := .long) (C := "TorsionDeskModel") (T := tX4) (N := 20) hx hb hB lX4 yX4 yX4_ok nX4 hown hK hP hD hS 0 rfl rfl 14 (by decide) (hB _ zw_431) (fun _ h9 => h9) rfl (by decide +kernel) rfl rfl (Nat.le_of_ble_eq_true rfl) d_md_add_179 (fun H locs hP hD hS => ?_)
            have hP : va_P D vwCl [(qm, .inr (4, [.int mt, .int mh, .int ma, .int mc, .long m1, .long m2, .long m3, .long m4, .int mp, .ref qa, .ref qb, .ref qc, .int (0 : Int32), .int (1 : Int32), .long ((((((j5 - j3) / (j4 - j2)) * ((j5 - j3) / (j4 - j2))) - m1) - j2) - j4), .long (-(j3 + (((j5 - j3) / (j4 - j2)) * (((((((j5 - j3) / (j4 - j2)) * ((j5 - j3) / (j4 - j2))) - m1) - j2) - j4) - j2)))), .int mr, .int ml, .int mf, .int ms])), (qa, .inl (cI, 40, .inl pa)), (qb, .inl (cI, 40, .inl pb)), (qc, .inl (cI, 40, .inl po))] H := hP
            have hD : va_D A [(qm, .inr (4, [.int mt, .int mh, .int ma, .int mc, .long m1, .long m2, .long m3, .long m4, .int mp, .ref qa, .ref qb, .ref qc, .int (0 : Int32), .int (1 : Int32), .long ((((((j5 - j3) / (j4 - j2)) * ((j5 - j3) / (j4 - j2))) - m1) - j2) - j4), .long (-(j3 + (((j5 - j3) / (j4 - j2)) * (((((((j5 - j3) / (j4 - j2)) * ((j5 - j3) / (j4 - j2))) - m1) - j2) - j4) - j2)))), .int mr, .int ml, .int mf, .int ms])), (qa, .inl (cI, 40, .inl pa)), (qb, .inl (cI, 40, .inl pb)), (qc, .inl (cI, 40, .inl po))] := hD
            refine lv_aload_n (pc := 182) hx hb d_md_add_182 rfl (lv_at hl 5 rfl) ?_
            refine lv_lload (pc := 183) hx hb d_md_add_183 (lv_at hl 0 rfl) ?_
            refine lv_ldc2 (pc := 185) (v := (-5000 : Int64)) hx hb hown (hB _ zw_509) d_md_add_185 ?_
            refine zl_lt (pc := 188) (tgt := 205) hx hb d_md_add_188 d_md_add_189 rfl (fun h16 => ?_) (fun h16 => ?_)
            · rw [if_pos h16] at hm
              refine lv_iconst (pc := 205) (v := (0 : Int32)) hx hb d_md_add_205 (by decide) ?_
              refine va_put (pc := 206) (D := D) (ci := 4) (v := .int (0 : Int32)) (ty := .boolean) (C := "TorsionDeskModel") (T := tX4) (N := 20) hx hb hB lX4 yX4 yX4_ok nX4 hown hK hP hD hS 0 rfl rfl 13 (by decide) (hB _ zw_430) (fun _ h9 => h9) rfl (by decide +kernel) rfl rfl (Nat.le_of_ble_eq_true rfl) d_md_add_206 (fun H locs hP hD hS => ?_)
              have hP : va_P D vwCl [(qm, .inr (4, [.int mt, .int mh, .int ma, .int mc, .long m1, .long m2, .long m3, .long m4, .int mp, .ref qa, .ref qb, .ref qc, .int (0 : Int32), .int (0 : Int32), .long ((((((j5 - j3) / (j4 - j2)) * ((j5 - j3) / (j4 - j2))) - m1) - j2) - j4), .long (-(j3 + (((j5 - j3) / (j4 - j2)) * (((((((j5 - j3) / (j4 - j2)) * ((j5 - j3) / (j4 - j2))) - m1) - j2) - j4) - j2)))), .int mr, .int ml, .int mf, .int ms])), (qa, .inl (cI, 40, .inl pa)), (qb, .inl (cI, 40, .inl pb)), (qc, .inl (cI, 40, .inl po))] H := hP
              have hD : va_D A [(qm, .inr (4, [.int mt, .int mh, .int ma, .int mc, .long m1, .long m2, .long m3, .long m4, .int mp, .ref qa, .ref qb, .ref qc, .int (0 : Int32), .int (0 : Int32), .long ((((((j5 - j3) / (j4 - j2)) * ((j5 - j3) / (j4 - j2))) - m1) - j2) - j4), .long (-(j3 + (((j5 - j3) / (j4 - j2)) * (((((((j5 - j3) / (j4 - j2)) * ((j5 - j3) / (j4 - j2))) - m1) - j2) - j4) - j2)))), .int mr, .int ml, .int mf, .int ms])), (qa, .inl (cI, 40, .inl pa)), (qb, .inl (cI, 40, .inl pb)), (qc, .inl (cI, 40, .inl po))] := hD
              cases hm
              rw [hQ]
              exact W.vret (pc := 209) hx hb hr (fun t ht _ => ⟨rfl, by rw [ht]; exact hP, hS.F ht⟩) hS.2.2 d_md_add_209
            rw [if_neg h16] at hm
            refine lv_lload (pc := 192) hx hb d_md_add_192 (lv_at hl 0 rfl) ?_
            refine lv_ldc2 (pc := 194) (v := (5000 : Int64)) hx hb hown (hB _ zw_510) d_md_add_194 ?_
            refine zl_gt (pc := 197) (tgt := 205) hx hb d_md_add_197 d_md_add_198 rfl (fun h17 => ?_) (fun h17 => ?_)
            · rw [if_pos h17] at hm
              refine lv_iconst (pc := 205) (v := (0 : Int32)) hx hb d_md_add_205 (by decide) ?_
              refine va_put (pc := 206) (D := D) (ci := 4) (v := .int (0 : Int32)) (ty := .boolean) (C := "TorsionDeskModel") (T := tX4) (N := 20) hx hb hB lX4 yX4 yX4_ok nX4 hown hK hP hD hS 0 rfl rfl 13 (by decide) (hB _ zw_430) (fun _ h9 => h9) rfl (by decide +kernel) rfl rfl (Nat.le_of_ble_eq_true rfl) d_md_add_206 (fun H locs hP hD hS => ?_)
              have hP : va_P D vwCl [(qm, .inr (4, [.int mt, .int mh, .int ma, .int mc, .long m1, .long m2, .long m3, .long m4, .int mp, .ref qa, .ref qb, .ref qc, .int (0 : Int32), .int (0 : Int32), .long ((((((j5 - j3) / (j4 - j2)) * ((j5 - j3) / (j4 - j2))) - m1) - j2) - j4), .long (-(j3 + (((j5 - j3) / (j4 - j2)) * (((((((j5 - j3) / (j4 - j2)) * ((j5 - j3) / (j4 - j2))) - m1) - j2) - j4) - j2)))), .int mr, .int ml, .int mf, .int ms])), (qa, .inl (cI, 40, .inl pa)), (qb, .inl (cI, 40, .inl pb)), (qc, .inl (cI, 40, .inl po))] H := hP
              have hD : va_D A [(qm, .inr (4, [.int mt, .int mh, .int ma, .int mc, .long m1, .long m2, .long m3, .long m4, .int mp, .ref qa, .ref qb, .ref qc, .int (0 : Int32), .int (0 : Int32), .long ((((((j5 - j3) / (j4 - j2)) * ((j5 - j3) / (j4 - j2))) - m1) - j2) - j4), .long (-(j3 + (((j5 - j3) / (j4 - j2)) * (((((((j5 - j3) / (j4 - j2)) * ((j5 - j3) / (j4 - j2))) - m1) - j2) - j4) - j2)))), .int mr, .int ml, .int mf, .int ms])), (qa, .inl (cI, 40, .inl pa)), (qb, .inl (cI, 40, .inl pb)), (qc, .inl (cI, 40, .inl po))] := hD
              cases hm
              rw [hQ]
              exact W.vret (pc := 209) hx hb hr (fun t ht _ => ⟨rfl, by rw [ht]; exact hP, hS.F ht⟩) hS.2.2 d_md_add_209
            rw [if_neg h17] at hm
            refine lv_iconst (pc := 201) (v := (1 : Int32)) hx hb d_md_add_201 (by decide) ?_
            refine lv_goto (pc := 202) (tgt := 206) hx hb d_md_add_202 rfl ?_
            refine va_put (pc := 206) (D := D) (ci := 4) (v := .int (1 : Int32)) (ty := .boolean) (C := "TorsionDeskModel") (T := tX4) (N := 20) hx hb hB lX4 yX4 yX4_ok nX4 hown hK hP hD hS 0 rfl rfl 13 (by decide) (hB _ zw_430) (fun _ h9 => h9) rfl (by decide +kernel) rfl rfl (Nat.le_of_ble_eq_true rfl) d_md_add_206 (fun H locs hP hD hS => ?_)
            have hP : va_P D vwCl [(qm, .inr (4, [.int mt, .int mh, .int ma, .int mc, .long m1, .long m2, .long m3, .long m4, .int mp, .ref qa, .ref qb, .ref qc, .int (0 : Int32), .int (1 : Int32), .long ((((((j5 - j3) / (j4 - j2)) * ((j5 - j3) / (j4 - j2))) - m1) - j2) - j4), .long (-(j3 + (((j5 - j3) / (j4 - j2)) * (((((((j5 - j3) / (j4 - j2)) * ((j5 - j3) / (j4 - j2))) - m1) - j2) - j4) - j2)))), .int mr, .int ml, .int mf, .int ms])), (qa, .inl (cI, 40, .inl pa)), (qb, .inl (cI, 40, .inl pb)), (qc, .inl (cI, 40, .inl po))] H := hP
            have hD : va_D A [(qm, .inr (4, [.int mt, .int mh, .int ma, .int mc, .long m1, .long m2, .long m3, .long m4, .int mp, .ref qa, .ref qb, .ref qc, .int (0 : Int32), .int (1 : Int32), .long ((((((j5 - j3) / (j4 - j2)) * ((j5 - j3) / (j4 - j2))) - m1) - j2) - j4), .long (-(j3 + (((j5 - j3) / (j4 - j2)) * (((((((j5 - j3) / (j4 - j2)) * ((j5 - j3) / (j4 - j2))) - m1) - j2) - j4) - j2)))), .int mr, .int ml, .int mf, .int ms])), (qa, .inl (cI, 40, .inl pa)), (qb, .inl (cI, 40, .inl pb)), (qc, .inl (cI, 40, .inl po))] := hD
            cases hm
            rw [hQ]
            exact W.vret (pc := 209) hx hb hr (fun t ht _ => ⟨rfl, by rw [ht]; exact hP, hS.F ht⟩) hS.2.2 d_md_add_209
          rw [if_neg h15] at hm
          refine lv_aload_n (pc := 131) hx hb d_md_add_131 rfl (lv_at hl 3 rfl) ?_
          refine lv_iconst (pc := 132) (v := (0 : Int32)) hx hb d_md_add_132 (by decide) ?_
          refine va_put (pc := 133) (D := D) (ci := 4) (v := .int (0 : Int32)) (ty := .boolean) (C := "TorsionDeskModel") (T := tX4) (N := 20) hx hb hB lX4 yX4 yX4_ok nX4 hown hK hP hD hS 0 rfl rfl 13 (by decide) (hB _ zw_430) (fun _ h9 => h9) rfl (by decide +kernel) rfl rfl (Nat.le_of_ble_eq_true rfl) d_md_add_133 (fun H locs hP hD hS => ?_)
          have hP : va_P D vwCl [(qm, .inr (4, [.int mt, .int mh, .int ma, .int mc, .long m1, .long m2, .long m3, .long m4, .int mp, .ref qa, .ref qb, .ref qc, .int (0 : Int32), .int (0 : Int32), .long mx, .long my, .int mr, .int ml, .int mf, .int ms])), (qa, .inl (cI, 40, .inl pa)), (qb, .inl (cI, 40, .inl pb)), (qc, .inl (cI, 40, .inl po))] H := hP
          have hD : va_D A [(qm, .inr (4, [.int mt, .int mh, .int ma, .int mc, .long m1, .long m2, .long m3, .long m4, .int mp, .ref qa, .ref qb, .ref qc, .int (0 : Int32), .int (0 : Int32), .long mx, .long my, .int mr, .int ml, .int mf, .int ms])), (qa, .inl (cI, 40, .inl pa)), (qb, .inl (cI, 40, .inl pb)), (qc, .inl (cI, 40, .inl po))] := hD
          cases hm
          rw [hQ]
          exact W.vret (pc := 136) hx hb hr (fun t ht _ => ⟨rfl, by rw [ht]; exact hP, hS.F ht⟩) hS.2.2 d_md_add_136
        rw [if_pos h13] at hm
        refine lv_iconst (pc := 56) (v := (1 : Int32)) hx hb d_md_add_56 (by decide) ?_
        refine lv_goto (pc := 57) (tgt := 61) hx hb d_md_add_57 rfl ?_
        refine lv_istore (pc := 61) (lv' := [(10, .int (1 : Int32)), (0, .ref qm), (1, .int i1), (2, .long j2), (4, .long j3), (6, .long j4), (8, .long j5)]) hx hb d_md_add_61 hl (Nat.le_of_ble_eq_true rfl) rfl (fun ls hl => ?_)
        refine lv_iload (pc := 63) hx hb d_md_add_63 (lv_at hl 0 rfl) ?_
        refine lv_if_eq (pc := 65) (tgt := 94) hx hb d_md_add_65 rfl (fun h9 => absurd h9 (by decide)) (fun _ => ?_)
        refine lv_ldc2 (pc := 68) (v := (3 : Int64)) hx hb hown (hB _ zw_507) d_md_add_68 ?_
        refine lv_lload_n (pc := 71) hx hb d_md_add_71 rfl (lv_at hl 3 rfl) ?_
        refine lv_lmul (pc := 72) hx hb d_md_add_72 ?_
        refine lv_lload_n (pc := 73) hx hb d_md_add_73 rfl (lv_at hl 3 rfl) ?_
        refine lv_lmul (pc := 74) hx hb d_md_add_74 ?_
        refine lv_ldc2 (pc := 75) (v := (2 : Int64)) hx hb hown (hB _ zw_508) d_md_add_75 ?_
        refine lv_aload_n (pc := 78) hx hb d_md_add_78 rfl (lv_at hl 1 rfl) ?_
        refine va_get (pc := 79) (D := D) (ci := 4) (v := .long m1) (C := "TorsionDeskModel") (T := tX4) (N := 20) hx hb hB lX4 hown hK hP 0 rfl rfl 4 (by decide) (hB _ zw_421) (fun _ h9 => h9) rfl d_md_add_79 ?_
        refine lv_lmul (pc := 82) hx hb d_md_add_82 ?_
        refine lv_lload_n (pc := 83) hx hb d_md_add_83 rfl (lv_at hl 3 rfl) ?_
        refine lv_lmul (pc := 84) hx hb d_md_add_84 ?_
        refine lv_ladd (pc := 85) hx hb d_md_add_85 ?_
        refine lv_aload_n (pc := 86) hx hb d_md_add_86 rfl (lv_at hl 1 rfl) ?_
        refine va_get (pc := 87) (D := D) (ci := 4) (v := .long m2) (C := "TorsionDeskModel") (T := tX4) (N := 20) hx hb hB lX4 hown hK hP 0 rfl rfl 5 (by decide) (hB _ zw_422) (fun _ h9 => h9) rfl d_md_add_87 ?_
        refine lv_ladd (pc := 90) hx hb d_md_add_90 ?_
        refine lv_goto (pc := 91) (tgt := 99) hx hb d_md_add_91 rfl ?_
        refine lv_lstore (pc := 99) (lv' := [(11, .long (((((3 : Int64) * j2) * j2) + (((2 : Int64) * m1) * j2)) + m2)), (10, .int (1 : Int32)), (0, .ref qm), (1, .int i1), (2, .long j2), (4, .long j3), (6, .long j4), (8, .long j5)]) hx hb d_md_add_99 hl (Nat.le_of_ble_eq_true rfl) rfl (fun ls hl => ?_)
        refine lv_iload (pc := 101) hx hb d_md_add_101 (lv_at hl 1 rfl) ?_
        refine lv_if_eq (pc := 103) (tgt := 115) hx hb d_md_add_103 rfl (fun h9 => absurd h9 (by decide)) (fun _ => ?_)
        refine lv_ldc2 (pc := 106) (v := (2 : Int64)) hx hb hown (hB _ zw_508) d_md_add_106 ?_
        refine lv_lload (pc := 109) hx hb d_md_add_109 (lv_at hl 5 rfl) ?_
        refine lv_lmul (pc := 111) hx hb d_md_add_111 ?_
        refine lv_goto (pc := 112) (tgt := 119) hx hb d_md_add_112 rfl ?_
        refine lv_lstore (pc := 119) (lv' := [(13, .long ((2 : Int64) * j3)), (11, .long (((((3 : Int64) * j2) * j2) + (((2 : Int64) * m1) * j2)) + m2)), (10, .int (1 : Int32)), (0, .ref qm), (1, .int i1), (2, .long j2), (4, .long j3), (6, .long j4), (8, .long j5)]) hx hb d_md_add_119 hl (Nat.le_of_ble_eq_true rfl) rfl (fun ls hl => ?_)
        refine lv_lload (pc := 121) hx hb d_md_add_121 (lv_at hl 1 rfl) ?_
        refine lv_lload (pc := 123) hx hb d_md_add_123 (lv_at hl 0 rfl) ?_
        by_cases g18 : ((2 : Int64) * j3) = 0
        · rw [if_pos g18] at hm; cases hm
        rw [if_neg g18] at hm
        refine lv_lrem (pc := 125) hx hb d_md_add_125 g18 ?_
        refine lv_lconst (pc := 126) (v := (0 : Int64)) hx hb d_md_add_126 (by decide) ?_
        refine zl_eq (pc := 127) (tgt := 137) hx hb d_md_add_127 d_md_add_128 rfl (fun h19 => ?_) (fun h19 => ?_)
        · rw [if_pos h19] at hm
          refine lv_lload (pc := 137) hx hb d_md_add_137 (lv_at hl 1 rfl) ?_
          refine lv_lload (pc := 139) hx hb d_md_add_139 (lv_at hl 0 rfl) ?_
          refine lv_ldiv (pc := 141) hx hb d_md_add_141 g18 ?_
          refine lv_lstore (pc := 142) (lv' := [(15, .long ((((((3 : Int64) * j2) * j2) + (((2 : Int64) * m1) * j2)) + m2) / ((2 : Int64) * j3))), (13, .long ((2 : Int64) * j3)), (11, .long (((((3 : Int64) * j2) * j2) + (((2 : Int64) * m1) * j2)) + m2)), (10, .int (1 : Int32)), (0, .ref qm), (1, .int i1), (2, .long j2), (4, .long j3), (6, .long j4), (8, .long j5)]) hx hb d_md_add_142 hl (Nat.le_of_ble_eq_true rfl) rfl (fun ls hl => ?_)
          refine lv_lload (pc := 144) hx hb d_md_add_144 (lv_at hl 0 rfl) ?_
          refine lv_lload (pc := 146) hx hb d_md_add_146 (lv_at hl 0 rfl) ?_
          refine lv_lmul (pc := 148) hx hb d_md_add_148 ?_
          refine lv_aload_n (pc := 149) hx hb d_md_add_149 rfl (lv_at hl 4 rfl) ?_
          refine va_get (pc := 150) (D := D) (ci := 4) (v := .long m1) (C := "TorsionDeskModel") (T := tX4) (N := 20) hx hb hB lX4 hown hK hP 0 rfl rfl 4 (by decide) (hB _ zw_421) (fun _ h9 => h9) rfl d_md_add_150 ?_
          refine lv_lsub (pc := 153) hx hb d_md_add_153 ?_
          refine lv_lload_n (pc := 154) hx hb d_md_add_154 rfl (lv_at hl 6 rfl) ?_
          refine lv_lsub (pc := 155) hx hb d_md_add_155 ?_
          refine lv_lload (pc := 156) hx hb d_md_add_156 (lv_at hl 8 rfl) ?_
          refine lv_lsub (pc := 158) hx hb d_md_add_158 ?_
          refine lv_lstore (pc := 159) (lv' := [(17, .long ((((((((((3 : Int64) * j2) * j2) + (((2 : Int64) * m1) * j2)) + m2) / ((2 : Int64) * j3)) * ((((((3 : Int64) * j2) * j2) + (((2 : Int64) * m1) * j2)) + m2) / ((2 : Int64) * j3))) - m1) - j2) - j4)), (15, .long ((((((3 : Int64) * j2) * j2) + (((2 : Int64) * m1) * j2)) + m2) / ((2 : Int64) * j3))), (13, .long ((2 : Int64) * j3)), (11, .long (((((3 : Int64) * j2) * j2) + (((2 : Int64) * m1) * j2)) + m2)), (10, .int (1 : Int32)), (0, .ref qm), (1, .int i1), (2, .long j2), (4, .long j3), (6, .long j4), (8, .long j5)]) hx hb d_md_add_159 hl (Nat.le_of_ble_eq_true rfl) rfl (fun ls hl => ?_)
          refine lv_aload_n (pc := 161) hx hb d_md_add_161 rfl (lv_at hl 5 rfl) ?_
          refine lv_lload (pc := 162) hx hb d_md_add_162 (lv_at hl 8 rfl) ?_
          refine lv_lload (pc := 164) hx hb d_md_add_164 (lv_at hl 1 rfl) ?_
          refine lv_lload (pc := 166) hx hb d_md_add_166 (lv_at hl 0 rfl) ?_
          refine lv_lload_n (pc := 168) hx hb d_md_add_168 rfl (lv_at hl 7 rfl) ?_
          refine lv_lsub (pc := 169) hx hb d_md_add_169 ?_
          refine lv_lmul (pc := 170) hx hb d_md_add_170 ?_
          refine lv_ladd (pc := 171) hx hb d_md_add_171 ?_
          refine lv_lneg (pc := 172) hx hb d_md_add_172 ?_
          refine va_put (pc := 173) (D := D) (ci := 4) (v := .long (-(j3 + (((((((3 : Int64) * j2) * j2) + (((2 : Int64) * m1) * j2)) + m2) / ((2 : Int64) * j3)) * (((((((((((3 : Int64) * j2) * j2) + (((2 : Int64) * m1) * j2)) + m2) / ((2 : Int64) * j3)) * ((((((3 : Int64) * j2) * j2) + (((2 : Int64) * m1) * j2)) + m2) / ((2 : Int64) * j3))) - m1) - j2) - j4) - j2))))) (ty := .long) (C := "TorsionDeskModel") (T := tX4) (N := 20) hx hb hB lX4 yX4 yX4_ok nX4 hown hK hP hD hS 0 rfl rfl 15 (by decide) (hB _ zw_432) (fun _ h9 => h9) rfl (by decide +kernel) rfl rfl (Nat.le_of_ble_eq_true rfl) d_md_add_173 (fun H locs hP hD hS => ?_)
          have hP : va_P D vwCl [(qm, .inr (4, [.int mt, .int mh, .int ma, .int mc, .long m1, .long m2, .long m3, .long m4, .int mp, .ref qa, .ref qb, .ref qc, .int (0 : Int32), .int (1 : Int32), .long mx, .long (-(j3 + (((((((3 : Int64) * j2) * j2) + (((2 : Int64) * m1) * j2)) + m2) / ((2 : Int64) * j3)) * (((((((((((3 : Int64) * j2) * j2) + (((2 : Int64) * m1) * j2)) + m2) / ((2 : Int64) * j3)) * ((((((3 : Int64) * j2) * j2) + (((2 : Int64) * m1) * j2)) + m2) / ((2 : Int64) * j3))) - m1) - j2) - j4) - j2)))), .int mr, .int ml, .int mf, .int ms])), (qa, .inl (cI, 40, .inl pa)), (qb, .inl (cI, 40, .inl pb)), (qc, .inl (cI, 40, .inl po))] H := hP
          have hD : va_D A [(qm, .inr (4, [.int mt, .int mh, .int ma, .int mc, .long m1, .long m2, .long m3, .long m4, .int mp, .ref qa, .ref qb, .ref qc, .int (0 : Int32), .int (1 : Int32), .long mx, .long (-(j3 + (((((((3 : Int64) * j2) * j2) + (((2 : Int64) * m1) * j2)) + m2) / ((2 : Int64) * j3)) * (((((((((((3 : Int64) * j2) * j2) + (((2 : Int64) * m1) * j2)) + m2) / ((2 : Int64) * j3)) * ((((((3 : Int64) * j2) * j2) + (((2 : Int64) * m1) * j2)) + m2) / ((2 : Int64) * j3))) - m1) - j2) - j4) - j2)))), .int mr, .int ml, .int mf, .int ms])), (qa, .inl (cI, 40, .inl pa)), (qb, .inl (cI, 40, .inl pb)), (qc, .inl (cI, 40, .inl po))] := hD
          refine lv_aload_n (pc := 176) hx hb d_md_add_176 rfl (lv_at hl 5 rfl) ?_
          refine lv_lload (pc := 177) hx hb d_md_add_177 (lv_at hl 0 rfl) ?_
          refine va_put (pc := 179) (D := D) (ci := 4) (v := .long ((((((((((3 : Int64) * j2) * j2) + (((2 : Int64) * m1) * j2)) + m2) / ((2 : Int64) * j3)) * ((((((3 : Int64) * j2) * j2) + (((2 : Int64) * m1) * j2)) + m2) / ((2 : Int64) * j3))) - m1) - j2) - j4)) (ty := .long) (C := "TorsionDeskModel") (T := tX4) (N := 20) hx hb hB lX4 yX4 yX4_ok nX4 hown hK hP hD hS 0 rfl rfl 14 (by decide) (hB _ zw_431) (fun _ h9 => h9) rfl (by decide +kernel) rfl rfl (Nat.le_of_ble_eq_true rfl) d_md_add_179 (fun H locs hP hD hS => ?_)
          have hP : va_P D vwCl [(qm, .inr (4, [.int mt, .int mh, .int ma, .int mc, .long m1, .long m2, .long m3, .long m4, .int mp, .ref qa, .ref qb, .ref qc, .int (0 : Int32), .int (1 : Int32), .long ((((((((((3 : Int64) * j2) * j2) + (((2 : Int64) * m1) * j2)) + m2) / ((2 : Int64) * j3)) * ((((((3 : Int64) * j2) * j2) + (((2 : Int64) * m1) * j2)) + m2) / ((2 : Int64) * j3))) - m1) - j2) - j4), .long (-(j3 + (((((((3 : Int64) * j2) * j2) + (((2 : Int64) * m1) * j2)) + m2) / ((2 : Int64) * j3)) * (((((((((((3 : Int64) * j2) * j2) + (((2 : Int64) * m1) * j2)) + m2) / ((2 : Int64) * j3)) * ((((((3 : Int64) * j2) * j2) + (((2 : Int64) * m1) * j2)) + m2) / ((2 : Int64) * j3))) - m1) - j2) - j4) - j2)))), .int mr, .int ml, .int mf, .int ms])), (qa, .inl (cI, 40, .inl pa)), (qb, .inl (cI, 40, .inl pb)), (qc, .inl (cI, 40, .inl po))] H := hP
          have hD : va_D A [(qm, .inr (4, [.int mt, .int mh, .int ma, .int mc, .long m1, .long m2, .long m3, .long m4, .int mp, .ref qa, .ref qb, .ref qc, .int (0 : Int32), .int (1 : Int32), .long ((((((((((3 : Int64) * j2) * j2) + (((2 : Int64) * m1) * j2)) + m2) / ((2 : Int64) * j3)) * ((((((3 : Int64) * j2) * j2) + (((2 : Int64) * m1) * j2)) + m2) / ((2 : Int64) * j3))) - m1) - j2) - j4), .long (-(j3 + (((((((3 : Int64) * j2) * j2) + (((2 : Int64) * m1) * j2)) + m2) / ((2 : Int64) * j3)) * (((((((((((3 : Int64) * j2) * j2) + (((2 : Int64) * m1) * j2)) + m2) / ((2 : Int64) * j3)) * ((((((3 : Int64) * j2) * j2) + (((2 : Int64) * m1) * j2)) + m2) / ((2 : Int64) * j3))) - m1) - j2) - j4) - j2)))), .int mr, .int ml, .int mf, .int ms])), (qa, .inl (cI, 40, .inl pa)), (qb, .inl (cI, 40, .inl pb)), (qc, .inl (cI, 40, .inl po))] := hD
          refine lv_aload_n (pc := 182) hx hb d_md_add_182 rfl (lv_at hl 5 rfl) ?_
          refine lv_lload (pc := 183) hx hb d_md_add_183 (lv_at hl 0 rfl) ?_
          refine lv_ldc2 (pc := 185) (v := (-5000 : Int64)) hx hb hown (hB _ zw_509) d_md_add_185 ?_
          refine zl_lt (pc := 188) (tgt := 205) hx hb d_md_add_188 d_md_add_189 rfl (fun h20 => ?_) (fun h20 => ?_)
          · rw [if_pos h20] at hm
            refine lv_iconst (pc := 205) (v := (0 : Int32)) hx hb d_md_add_205 (by decide) ?_
            refine va_put (pc := 206) (D := D) (ci := 4) (v := .int (0 : Int32)) (ty := .boolean) (C := "TorsionDeskModel") (T := tX4) (N := 20) hx hb hB lX4 yX4 yX4_ok nX4 hown hK hP hD hS 0 rfl rfl 13 (by decide) (hB _ zw_430) (fun _ h9 => h9) rfl (by decide +kernel) rfl rfl (Nat.le_of_ble_eq_true rfl) d_md_add_206 (fun H locs hP hD hS => ?_)
            have hP : va_P D vwCl [(qm, .inr (4, [.int mt, .int mh, .int ma, .int mc, .long m1, .long m2, .long m3, .long m4, .int mp, .ref qa, .ref qb, .ref qc, .int (0 : Int32), .int (0 : Int32), .long ((((((((((3 : Int64) * j2) * j2) + (((2 : Int64) * m1) * j2)) + m2) / ((2 : Int64) * j3)) * ((((((3 : Int64) * j2) * j2) + (((2 : Int64) * m1) * j2)) + m2) / ((2 : Int64) * j3))) - m1) - j2) - j4), .long (-(j3 + (((((((3 : Int64) * j2) * j2) + (((2 : Int64) * m1) * j2)) + m2) / ((2 : Int64) * j3)) * (((((((((((3 : Int64) * j2) * j2) + (((2 : Int64) * m1) * j2)) + m2) / ((2 : Int64) * j3)) * ((((((3 : Int64) * j2) * j2) + (((2 : Int64) * m1) * j2)) + m2) / ((2 : Int64) * j3))) - m1) - j2) - j4) - j2)))), .int mr, .int ml, .int mf, .int ms])), (qa, .inl (cI, 40, .inl pa)), (qb, .inl (cI, 40, .inl pb)), (qc, .inl (cI, 40, .inl po))] H := hP
            have hD : va_D A [(qm, .inr (4, [.int mt, .int mh, .int ma, .int mc, .long m1, .long m2, .long m3, .long m4, .int mp, .ref qa, .ref qb, .ref qc, .int (0 : Int32), .int (0 : Int32), .long ((((((((((3 : Int64) * j2) * j2) + (((2 : Int64) * m1) * j2)) + m2) / ((2 : Int64) * j3)) * ((((((3 : Int64) * j2) * j2) + (((2 : Int64) * m1) * j2)) + m2) / ((2 : Int64) * j3))) - m1) - j2) - j4), .long (-(j3 + (((((((3 : Int64) * j2) * j2) + (((2 : Int64) * m1) * j2)) + m2) / ((2 : Int64) * j3)) * (((((((((((3 : Int64) * j2) * j2) + (((2 : Int64) * m1) * j2)) + m2) / ((2 : Int64) * j3)) * ((((((3 : Int64) * j2) * j2) + (((2 : Int64) * m1) * j2)) + m2) / ((2 : Int64) * j3))) - m1) - j2) - j4) - j2)))), .int mr, .int ml, .int mf, .int ms])), (qa, .inl (cI, 40, .inl pa)), (qb, .inl (cI, 40, .inl pb)), (qc, .inl (cI, 40, .inl po))] := hD
            cases hm
            rw [hQ]
            exact W.vret (pc := 209) hx hb hr (fun t ht _ => ⟨rfl, by rw [ht]; exact hP, hS.F ht⟩) hS.2.2 d_md_add_209
          rw [if_neg h20] at hm
          refine lv_lload (pc := 192) hx hb d_md_add_192 (lv_at hl 0 rfl) ?_
          refine lv_ldc2 (pc := 194) (v := (5000 : Int64)) hx hb hown (hB _ zw_510) d_md_add_194 ?_
          refine zl_gt (pc := 197) (tgt := 205) hx hb d_md_add_197 d_md_add_198 rfl (fun h21 => ?_) (fun h21 => ?_)
          · rw [if_pos h21] at hm
            refine lv_iconst (pc := 205) (v := (0 : Int32)) hx hb d_md_add_205 (by decide) ?_
            refine va_put (pc := 206) (D := D) (ci := 4) (v := .int (0 : Int32)) (ty := .boolean) (C := "TorsionDeskModel") (T := tX4) (N := 20) hx hb hB lX4 yX4 yX4_ok nX4 hown hK hP hD hS 0 rfl rfl 13 (by decide) (hB _ zw_430) (fun _ h9 => h9) rfl (by decide +kernel) rfl rfl (Nat.le_of_ble_eq_true rfl) d_md_add_206 (fun H locs hP hD hS => ?_)
            have hP : va_P D vwCl [(qm, .inr (4, [.int mt, .int mh, .int ma, .int mc, .long m1, .long m2, .long m3, .long m4, .int mp, .ref qa, .ref qb, .ref qc, .int (0 : Int32), .int (0 : Int32), .long ((((((((((3 : Int64) * j2) * j2) + (((2 : Int64) * m1) * j2)) + m2) / ((2 : Int64) * j3)) * ((((((3 : Int64) * j2) * j2) + (((2 : Int64) * m1) * j2)) + m2) / ((2 : Int64) * j3))) - m1) - j2) - j4), .long (-(j3 + (((((((3 : Int64) * j2) * j2) + (((2 : Int64) * m1) * j2)) + m2) / ((2 : Int64) * j3)) * (((((((((((3 : Int64) * j2) * j2) + (((2 : Int64) * m1) * j2)) + m2) / ((2 : Int64) * j3)) * ((((((3 : Int64) * j2) * j2) + (((2 : Int64) * m1) * j2)) + m2) / ((2 : Int64) * j3))) - m1) - j2) - j4) - j2)))), .int mr, .int ml, .int mf, .int ms])), (qa, .inl (cI, 40, .inl pa)), (qb, .inl (cI, 40, .inl pb)), (qc, .inl (cI, 40, .inl po))] H := hP
            have hD : va_D A [(qm, .inr (4, [.int mt, .int mh, .int ma, .int mc, .long m1, .long m2, .long m3, .long m4, .int mp, .ref qa, .ref qb, .ref qc, .int (0 : Int32), .int (0 : Int32), .long ((((((((((3 : Int64) * j2) * j2) + (((2 : Int64) * m1) * j2)) + m2) / ((2 : Int64) * j3)) * ((((((3 : Int64) * j2) * j2) + (((2 : Int64) * m1) * j2)) + m2) / ((2 : Int64) * j3))) - m1) - j2) - j4), .long (-(j3 + (((((((3 : Int64) * j2) * j2) + (((2 : Int64) * m1) * j2)) + m2) / ((2 : Int64) * j3)) * (((((((((((3 : Int64) * j2) * j2) + (((2 : Int64) * m1) * j2)) + m2) / ((2 : Int64) * j3)) * ((((((3 : Int64) * j2) * j2) + (((2 : Int64) * m1) * j2)) + m2) / ((2 : Int64) * j3))) - m1) - j2) - j4) - j2)))), .int mr, .int ml, .int mf, .int ms])), (qa, .inl (cI, 40, .inl pa)), (qb, .inl (cI, 40, .inl pb)), (qc, .inl (cI, 40, .inl po))] := hD
            cases hm
            rw [hQ]
            exact W.vret (pc := 209) hx hb hr (fun t ht _ => ⟨rfl, by rw [ht]; exact hP, hS.F ht⟩) hS.2.2 d_md_add_209
          rw [if_neg h21] at hm
          refine lv_iconst (pc := 201) (v := (1 : Int32)) hx hb d_md_add_201 (by decide) ?_
          refine lv_goto (pc := 202) (tgt := 206) hx hb d_md_add_202 rfl ?_
          refine va_put (pc := 206) (D := D) (ci := 4) (v := .int (1 : Int32)) (ty := .boolean) (C := "TorsionDeskModel") (T := tX4) (N := 20) hx hb hB lX4 yX4 yX4_ok nX4 hown hK hP hD hS 0 rfl rfl 13 (by decide) (hB _ zw_430) (fun _ h9 => h9) rfl (by decide +kernel) rfl rfl (Nat.le_of_ble_eq_true rfl) d_md_add_206 (fun H locs hP hD hS => ?_)
          have hP : va_P D vwCl [(qm, .inr (4, [.int mt, .int mh, .int ma, .int mc, .long m1, .long m2, .long m3, .long m4, .int mp, .ref qa, .ref qb, .ref qc, .int (0 : Int32), .int (1 : Int32), .long ((((((((((3 : Int64) * j2) * j2) + (((2 : Int64) * m1) * j2)) + m2) / ((2 : Int64) * j3)) * ((((((3 : Int64) * j2) * j2) + (((2 : Int64) * m1) * j2)) + m2) / ((2 : Int64) * j3))) - m1) - j2) - j4), .long (-(j3 + (((((((3 : Int64) * j2) * j2) + (((2 : Int64) * m1) * j2)) + m2) / ((2 : Int64) * j3)) * (((((((((((3 : Int64) * j2) * j2) + (((2 : Int64) * m1) * j2)) + m2) / ((2 : Int64) * j3)) * ((((((3 : Int64) * j2) * j2) + (((2 : Int64) * m1) * j2)) + m2) / ((2 : Int64) * j3))) - m1) - j2) - j4) - j2)))), .int mr, .int ml, .int mf, .int ms])), (qa, .inl (cI, 40, .inl pa)), (qb, .inl (cI, 40, .inl pb)), (qc, .inl (cI, 40, .inl po))] H := hP
          have hD : va_D A [(qm, .inr (4, [.int mt, .int mh, .int ma, .int mc, .long m1, .long m2, .long m3, .long m4, .int mp, .ref qa, .ref qb, .ref qc, .int (0 : Int32), .int (1 : Int32), .long ((((((((((3 : Int64) * j2) * j2) + (((2 : Int64) * m1) * j2)) + m2) / ((2 : Int64) * j3)) * ((((((3 : Int64) * j2) * j2) + (((2 : Int64) * m1) * j2)) + m2) / ((2 : Int64) * j3))) - m1) - j2) - j4), .long (-(j3 + (((((((3 : Int64) * j2) * j2) + (((2 : Int64) * m1) * j2)) + m2) / ((2 : Int64) * j3)) * (((((((((((3 : Int64) * j2) * j2) + (((2 : Int64) * m1) * j2)) + m2) / ((2 : Int64) * j3)) * ((((((3 : Int64) * j2) * j2) + (((2 : Int64) * m1) * j2)) + m2) / ((2 : Int64) * j3))) - m1) - j2) - j4) - j2)))), .int mr, .int ml, .int mf, .int ms])), (qa, .inl (cI, 40, .inl pa)), (qb, .inl (cI, 40, .inl pb)), (qc, .inl (cI, 40, .inl po))] := hD
          cases hm
          rw [hQ]
          exact W.vret (pc := 209) hx hb hr (fun t ht _ => ⟨rfl, by rw [ht]; exact hP, hS.F ht⟩) hS.2.2 d_md_add_209
        rw [if_neg h19] at hm
        refine lv_aload_n (pc := 131) hx hb d_md_add_131 rfl (lv_at hl 3 rfl) ?_
        refine lv_iconst (pc := 132) (v := (0 : Int32)) hx hb d_md_add_132 (by decide) ?_
        refine va_put (pc := 133) (D := D) (ci := 4) (v := .int (0 : Int32)) (ty := .boolean) (C := "TorsionDeskModel") (T := tX4) (N := 20) hx hb hB lX4 yX4 yX4_ok nX4 hown hK hP hD hS 0 rfl rfl 13 (by decide) (hB _ zw_430) (fun _ h9 => h9) rfl (by decide +kernel) rfl rfl (Nat.le_of_ble_eq_true rfl) d_md_add_133 (fun H locs hP hD hS => ?_)
        have hP : va_P D vwCl [(qm, .inr (4, [.int mt, .int mh, .int ma, .int mc, .long m1, .long m2, .long m3, .long m4, .int mp, .ref qa, .ref qb, .ref qc, .int (0 : Int32), .int (0 : Int32), .long mx, .long my, .int mr, .int ml, .int mf, .int ms])), (qa, .inl (cI, 40, .inl pa)), (qb, .inl (cI, 40, .inl pb)), (qc, .inl (cI, 40, .inl po))] H := hP
        have hD : va_D A [(qm, .inr (4, [.int mt, .int mh, .int ma, .int mc, .long m1, .long m2, .long m3, .long m4, .int mp, .ref qa, .ref qb, .ref qc, .int (0 : Int32), .int (0 : Int32), .long mx, .long my, .int mr, .int ml, .int mf, .int ms])), (qa, .inl (cI, 40, .inl pa)), (qb, .inl (cI, 40, .inl pb)), (qc, .inl (cI, 40, .inl po))] := hD
        cases hm
        rw [hQ]
        exact W.vret (pc := 136) hx hb hr (fun t ht _ => ⟨rfl, by rw [ht]; exact hP, hS.F ht⟩) hS.2.2 d_md_add_136
      rw [if_pos h12] at hm
      refine lv_aload_n (pc := 43) hx hb d_md_add_43 rfl (lv_at hl 0 rfl) ?_
      refine lv_iconst (pc := 44) (v := (1 : Int32)) hx hb d_md_add_44 (by decide) ?_
      refine va_put (pc := 45) (D := D) (ci := 4) (v := .int (1 : Int32)) (ty := .boolean) (C := "TorsionDeskModel") (T := tX4) (N := 20) hx hb hB lX4 yX4 yX4_ok nX4 hown hK hP hD hS 0 rfl rfl 12 (by decide) (hB _ zw_429) (fun _ h9 => h9) rfl (by decide +kernel) rfl rfl (Nat.le_of_ble_eq_true rfl) d_md_add_45 (fun H locs hP hD hS => ?_)
      have hP : va_P D vwCl [(qm, .inr (4, [.int mt, .int mh, .int ma, .int mc, .long m1, .long m2, .long m3, .long m4, .int mp, .ref qa, .ref qb, .ref qc, .int (1 : Int32), .int (1 : Int32), .long mx, .long my, .int mr, .int ml, .int mf, .int ms])), (qa, .inl (cI, 40, .inl pa)), (qb, .inl (cI, 40, .inl pb)), (qc, .inl (cI, 40, .inl po))] H := hP
      have hD : va_D A [(qm, .inr (4, [.int mt, .int mh, .int ma, .int mc, .long m1, .long m2, .long m3, .long m4, .int mp, .ref qa, .ref qb, .ref qc, .int (1 : Int32), .int (1 : Int32), .long mx, .long my, .int mr, .int ml, .int mf, .int ms])), (qa, .inl (cI, 40, .inl pa)), (qb, .inl (cI, 40, .inl pb)), (qc, .inl (cI, 40, .inl po))] := hD
      cases hm
      rw [hQ]
      exact W.vret (pc := 48) hx hb hr (fun t ht _ => ⟨rfl, by rw [ht]; exact hP, hS.F ht⟩) hS.2.2 d_md_add_48
    rw [if_neg h1] at hm
    refine lv_aload_n (pc := 14) hx hb d_md_add_14 rfl (lv_at hl 0 rfl) ?_
    refine lv_lload (pc := 15) hx hb d_md_add_15 (lv_at hl 4 rfl) ?_
    refine va_put (pc := 17) (D := D) (ci := 4) (v := .long j4) (ty := .long) (C := "TorsionDeskModel") (T := tX4) (N := 20) hx hb hB lX4 yX4 yX4_ok nX4 hown hK hP hD hS 0 rfl rfl 14 (by decide) (hB _ zw_431) (fun _ h9 => h9) rfl (by decide +kernel) rfl rfl (Nat.le_of_ble_eq_true rfl) d_md_add_17 (fun H locs hP hD hS => ?_)
    have hP : va_P D vwCl [(qm, .inr (4, [.int mt, .int mh, .int ma, .int mc, .long m1, .long m2, .long m3, .long m4, .int mp, .ref qa, .ref qb, .ref qc, .int (0 : Int32), .int (1 : Int32), .long j4, .long my, .int mr, .int ml, .int mf, .int ms])), (qa, .inl (cI, 40, .inl pa)), (qb, .inl (cI, 40, .inl pb)), (qc, .inl (cI, 40, .inl po))] H := hP
    have hD : va_D A [(qm, .inr (4, [.int mt, .int mh, .int ma, .int mc, .long m1, .long m2, .long m3, .long m4, .int mp, .ref qa, .ref qb, .ref qc, .int (0 : Int32), .int (1 : Int32), .long j4, .long my, .int mr, .int ml, .int mf, .int ms])), (qa, .inl (cI, 40, .inl pa)), (qb, .inl (cI, 40, .inl pb)), (qc, .inl (cI, 40, .inl po))] := hD
    refine lv_aload_n (pc := 20) hx hb d_md_add_20 rfl (lv_at hl 0 rfl) ?_
    refine lv_lload (pc := 21) hx hb d_md_add_21 (lv_at hl 5 rfl) ?_
    refine va_put (pc := 23) (D := D) (ci := 4) (v := .long j5) (ty := .long) (C := "TorsionDeskModel") (T := tX4) (N := 20) hx hb hB lX4 yX4 yX4_ok nX4 hown hK hP hD hS 0 rfl rfl 15 (by decide) (hB _ zw_432) (fun _ h9 => h9) rfl (by decide +kernel) rfl rfl (Nat.le_of_ble_eq_true rfl) d_md_add_23 (fun H locs hP hD hS => ?_)
    have hP : va_P D vwCl [(qm, .inr (4, [.int mt, .int mh, .int ma, .int mc, .long m1, .long m2, .long m3, .long m4, .int mp, .ref qa, .ref qb, .ref qc, .int (0 : Int32), .int (1 : Int32), .long j4, .long j5, .int mr, .int ml, .int mf, .int ms])), (qa, .inl (cI, 40, .inl pa)), (qb, .inl (cI, 40, .inl pb)), (qc, .inl (cI, 40, .inl po))] H := hP
    have hD : va_D A [(qm, .inr (4, [.int mt, .int mh, .int ma, .int mc, .long m1, .long m2, .long m3, .long m4, .int mp, .ref qa, .ref qb, .ref qc, .int (0 : Int32), .int (1 : Int32), .long j4, .long j5, .int mr, .int ml, .int mf, .int ms])), (qa, .inl (cI, 40, .inl pa)), (qb, .inl (cI, 40, .inl pb)), (qc, .inl (cI, 40, .inl po))] := hD
    cases hm
    rw [hQ]
    exact W.vret (pc := 26) hx hb hr (fun t ht _ => ⟨rfl, by rw [ht]; exact hP, hS.F ht⟩) hS.2.2 d_md_add_26
  exact main s.heap [] hP hD hS
abbrev rm_md_take : Room := { frames := 1, cells := 0, slots := 0, locals := 38 }
def a_md_take_L24 (mp : Int32) (m1 : Int64) (m2 : Int64) (pa : Nat → Int32) (pb : Nat → Int32) (po : Nat → Int32) (i1 : Int32) (i2 : Int32) : Nat → Int32 → Int32 → Int64 → Int64 → Int32 → Option ((Nat → Int32) × (Nat → Int32) × (Nat → Int32) × Int32 × Int32 × Int32 × Int64 × Int64)
  | 0, _, _, _, _, _ => none
  | n + 1, f0_12_24, f0_13_24, f0_14_24, f0_15_24, x3_24 => (if (13 : Int32) ≤ x3_24 then (if f0_12_24 = 0 then (some (pa, pb, po, mp, f0_12_24, f0_13_24, f0_14_24, f0_15_24)) else (if (mp < 0 ∨ 40 ≤ mp.toNatClampNeg) then none else (some (upd pa mp.toNatClampNeg i1, upd pb mp.toNatClampNeg i2, upd po mp.toNatClampNeg x3_24, mp + (1 : Int32), f0_12_24, f0_13_24, f0_14_24, f0_15_24)))) else (if f0_12_24 = 0 then (if f0_13_24 = 0 then (if f0_12_24 = 0 then (some (pa, pb, po, mp, f0_12_24, f0_13_24, f0_14_24, f0_15_24)) else (if (mp < 0 ∨ 40 ≤ mp.toNatClampNeg) then none else (some (upd pa mp.toNatClampNeg i1, upd pb mp.toNatClampNeg i2, upd po mp.toNatClampNeg x3_24, mp + (1 : Int32), f0_12_24, f0_13_24, f0_14_24, f0_15_24)))) else ((a_md_add m1 m2 f0_14_24 f0_15_24 f0_12_24 f0_14_24 f0_15_24 i1.toInt64 i2.toInt64).bind (fun (o0_12_c61, o0_13_c61, o0_14_c61, o0_15_c61) => a_md_take_L24 mp m1 m2 pa pb po i1 i2 n o0_12_c61 o0_13_c61 o0_14_c61 o0_15_c61 (x3_24 + (1 : Int32))))) else (if f0_12_24 = 0 then (some (pa, pb, po, mp, f0_12_24, f0_13_24, f0_14_24, f0_15_24)) else (if (mp < 0 ∨ 40 ≤ mp.toNatClampNeg) then none else (some (upd pa mp.toNatClampNeg i1, upd pb mp.toNatClampNeg i2, upd po mp.toNatClampNeg x3_24, mp + (1 : Int32), f0_12_24, f0_13_24, f0_14_24, f0_15_24))))))
def a_md_take (N : Nat) (mp : Int32) (m1 : Int64) (m2 : Int64) (pa : Nat → Int32) (pb : Nat → Int32) (po : Nat → Int32) (i1 : Int32) (i2 : Int32) : Option ((Nat → Int32) × (Nat → Int32) × (Nat → Int32) × Int32 × Int32 × Int32 × Int64 × Int64) := a_md_take_L24 mp m1 m2 pa pb po i1 i2 N (0 : Int32) (1 : Int32) i1.toInt64 i2.toInt64 (1 : Int32)
set_option maxHeartbeats 4000000 in
set_option maxRecDepth 100000 in
theorem w_a_md_take (l : Launch) (D : va_G) (cI cJ : ClassId) (qm : Nat) (qa : Nat) (qb : Nat) (qc : Nat) (mt : Int32) (mh : Int32) (ma : Int32) (mc : Int32) (mp : Int32) (mz : Int32) (mw : Int32) (mr : Int32) (ml : Int32) (mf : Int32) (ms : Int32) (m1 : Int64) (m2 : Int64) (m3 : Int64) (m4 : Int64) (mx : Int64) (my : Int64) (pa : Nat → Int32) (pb : Nat → Int32) (po : Nat → Int32) (i1 : Int32) (i2 : Int32) (N : Nat) (r0 : Nat → Int32) (r1 : Nat → Int32) (r2 : Nat → Int32) (r3 : Int32) (r4 : Int32) (r5 : Int32) (r6 : Int64) (r7 : Int64) (hm : a_md_take N mp m1 m2 pa pb po i1 i2 = some (r0, r1, r2, r3, r4, r5, r6, r7)) : Met l y_md_take zs_md_take rm_md_take (zPc [.ref qm, .int i1, .int i2] D [(qm, .inr (4, [.int mt, .int mh, .int ma, .int mc, .long m1, .long m2, .long m3, .long m4, .int mp, .ref qa, .ref qb, .ref qc, .int mz, .int mw, .long mx, .long my, .int mr, .int ml, .int mf, .int ms])), (qa, .inl (cI, 40, .inl pa)), (qb, .inl (cI, 40, .inl pb)), (qc, .inl (cI, 40, .inl po))] [(cI, .int), (cJ, .long)]) (zWr none D (zIn [(qm, .inr (4, [.int mt, .int mh, .int ma, .int mc, .long m1, .long m2, .long m3, .long m4, .int mp, .ref qa, .ref qb, .ref qc, .int mz, .int mw, .long mx, .long my, .int mr, .int ml, .int mf, .int ms])), (qa, .inl (cI, 40, .inl pa)), (qb, .inl (cI, 40, .inl pb)), (qc, .inl (cI, 40, .inl po))]) [(qm, .inr (4, [.int mt, .int mh, .int ma, .int mc, .long m1, .long m2, .long m3, .long m4, .int r3, .ref qa, .ref qb, .ref qc, .int r4, .int r5, .long r6, .long r7, .int mr, .int ml, .int mf, .int ms])), (qa, .inl (cI, 40, .inl r0)), (qb, .inl (cI, 40, .inl r1)), (qc, .inl (cI, 40, .inl r2))]) 0 0 (zIn [(qm, .inr (4, [.int mt, .int mh, .int ma, .int mc, .long m1, .long m2, .long m3, .long m4, .int mp, .ref qa, .ref qb, .ref qc, .int mz, .int mw, .long mx, .long my, .int mr, .int ml, .int mf, .int ms])), (qa, .inl (cI, 40, .inl pa)), (qb, .inl (cI, 40, .inl pb)), (qc, .inl (cI, 40, .inl po))]) := by
  refine zm (by decide) (Nat.le_of_ble_eq_true rfl) ?_
  intro p e s m args below meth c R Q hR hQ hargs hx hb hml hr hlocks hnm hB hown hP hK hD0 ls hl
  have hown : s.vm.findClass "TorsionDeskModel" = some m.cls := hown
  have hl : lv_has ls 4 [(0, .ref qm), (1, .int i1), (2, .int i2)] := hl
  obtain ⟨A, hA⟩ : ∃ A, A = zIn [(qm, .inr (4, [.int mt, .int mh, .int ma, .int mc, .long m1, .long m2, .long m3, .long m4, .int mp, .ref qa, .ref qb, .ref qc, .int mz, .int mw, .long mx, .long my, .int mr, .int ml, .int mf, .int ms])), (qa, .inl (cI, 40, .inl pa)), (qb, .inl (cI, 40, .inl pb)), (qc, .inl (cI, 40, .inl po))] := ⟨_, rfl⟩
  have hD : va_D A [(qm, .inr (4, [.int mt, .int mh, .int ma, .int mc, .long m1, .long m2, .long m3, .long m4, .int mp, .ref qa, .ref qb, .ref qc, .int mz, .int mw, .long mx, .long my, .int mr, .int ml, .int mf, .int ms])), (qa, .inl (cI, 40, .inl pa)), (qb, .inl (cI, 40, .inl pb)), (qc, .inl (cI, 40, .inl po))] := by rw [hA]; exact zIn_self hD0
  have hS : va_S A s.heap s.heap [] := va_S.rf
  rw [← hA] at hQ
  have k24 : ∀ (n : Nat) (f0_12_24 : Int32) (f0_13_24 : Int32) (f0_14_24 : Int64) (f0_15_24 : Int64) (x3_24 : Int32) (H : Heap) (locs : List Loc) (ls : Array Slot), lv_has ls 4 [(0, .ref qm), (1, .int i1), (2, .int i2), (3, .int x3_24)] → va_P D vwCl [(qm, .inr (4, [.int mt, .int mh, .int ma, .int mc, .long m1, .long m2, .long m3, .long m4, .int mp, .ref qa, .ref qb, .ref qc, .int f0_12_24, .int f0_13_24, .long f0_14_24, .long f0_15_24, .int mr, .int ml, .int mf, .int ms])), (qa, .inl (cI, 40, .inl pa)), (qb, .inl (cI, 40, .inl pb)), (qc, .inl (cI, 40, .inl po))] H → va_D A [(qm, .inr (4, [.int mt, .int mh, .int ma, .int mc, .long m1, .long m2, .long m3, .long m4, .int mp, .ref qa, .ref qb, .ref qc, .int f0_12_24, .int f0_13_24, .long f0_14_24, .long f0_15_24, .int mr, .int ml, .int mf, .int ms])), (qa, .inl (cI, 40, .inl pa)), (qb, .inl (cI, 40, .inl pb)), (qc, .inl (cI, 40, .inl po))] → va_S A s.heap H locs → a_md_take_L24 mp m1 m2 pa pb po i1 i2 n f0_12_24 f0_13_24 f0_14_24 f0_15_24 x3_24 = some (r0, r1, r2, r3, r4, r5, r6, r7) → W p l e R s m args below meth c H locs 0 0 Q (F0 m 24 ls []) := by
    intro n
    induction n with
    | zero => intro f0_12_24 f0_13_24 f0_14_24 f0_15_24 x3_24  H locs ls hl hP hD hS hm; rw [a_md_take_L24] at hm; cases hm
    | succ n ih =>
      intro f0_12_24 f0_13_24 f0_14_24 f0_15_24 x3_24  H locs ls hl hP hD hS hm
      rw [a_md_take_L24] at hm
      refine lv_iload_n (pc := 24) hx hb d_md_take_24 rfl (lv_at hl 3 rfl) ?_
      refine lv_bipush (pc := 25) (v := (13 : Int32)) hx hb d_md_take_25 (by decide) ?_
      refine lv_icmp_ge (pc := 27) (tgt := 70) hx hb d_md_take_27 rfl (fun h1 => ?_) (fun h1 => ?_)
      · rw [if_pos h1] at hm
        refine lv_aload_n (pc := 70) hx hb d_md_take_70 rfl (lv_at hl 0 rfl) ?_
        refine va_get (pc := 71) (D := D) (ci := 4) (v := .int f0_12_24) (C := "TorsionDeskModel") (T := tX4) (N := 20) hx hb hB lX4 hown hK hP 0 rfl rfl 12 (by decide) (hB _ zw_429) (fun _ h9 => h9) rfl d_md_take_71 ?_
        refine lv_if_eq (pc := 74) (tgt := 117) hx hb d_md_take_74 rfl (fun h2 => ?_) (fun h2 => ?_)
        · rw [if_pos h2] at hm
          cases hm
          rw [hQ]
          exact W.vret (pc := 117) hx hb hr (fun t ht _ => ⟨rfl, by rw [ht]; exact hP, hS.F ht⟩) hS.2.2 d_md_take_117
        rw [if_neg h2] at hm
        refine lv_aload_n (pc := 77) hx hb d_md_take_77 rfl (lv_at hl 0 rfl) ?_
        refine va_get (pc := 78) (D := D) (ci := 4) (v := .ref qa) (C := "TorsionDeskModel") (T := tX4) (N := 20) hx hb hB lX4 hown hK hP 0 rfl rfl 9 (by decide) (hB _ zw_426) (fun _ h9 => h9) rfl d_md_take_78 ?_
        refine lv_aload_n (pc := 81) hx hb d_md_take_81 rfl (lv_at hl 0 rfl) ?_
        refine va_get (pc := 82) (D := D) (ci := 4) (v := .int mp) (C := "TorsionDeskModel") (T := tX4) (N := 20) hx hb hB lX4 hown hK hP 0 rfl rfl 8 (by decide) (hB _ zw_425) (fun _ h9 => h9) rfl d_md_take_82 ?_
        refine lv_iload_n (pc := 85) hx hb d_md_take_85 rfl (lv_at hl 1 rfl) ?_
        by_cases g3 : (mp < 0 ∨ 40 ≤ mp.toNatClampNeg)
        · rw [if_pos g3] at hm; cases hm
        rw [if_neg g3] at hm
        refine va_iast (pc := 86) hx hb hK hP hD hS 1 0 rfl rfl g3 d_md_take_86 (fun H locs hP hD hS => ?_)
        have hP : va_P D vwCl [(qm, .inr (4, [.int mt, .int mh, .int ma, .int mc, .long m1, .long m2, .long m3, .long m4, .int mp, .ref qa, .ref qb, .ref qc, .int f0_12_24, .int f0_13_24, .long f0_14_24, .long f0_15_24, .int mr, .int ml, .int mf, .int ms])), (qa, .inl (cI, 40, .inl (upd pa mp.toNatClampNeg i1))), (qb, .inl (cI, 40, .inl pb)), (qc, .inl (cI, 40, .inl po))] H := hP
        have hD : va_D A [(qm, .inr (4, [.int mt, .int mh, .int ma, .int mc, .long m1, .long m2, .long m3, .long m4, .int mp, .ref qa, .ref qb, .ref qc, .int f0_12_24, .int f0_13_24, .long f0_14_24, .long f0_15_24, .int mr, .int ml, .int mf, .int ms])), (qa, .inl (cI, 40, .inl (upd pa mp.toNatClampNeg i1))), (qb, .inl (cI, 40, .inl pb)), (qc, .inl (cI, 40, .inl po))] := hD
        refine lv_aload_n (pc := 87) hx hb d_md_take_87 rfl (lv_at hl 0 rfl) ?_
        refine va_get (pc := 88) (D := D) (ci := 4) (v := .ref qb) (C := "TorsionDeskModel") (T := tX4) (N := 20) hx hb hB lX4 hown hK hP 0 rfl rfl 10 (by decide) (hB _ zw_427) (fun _ h9 => h9) rfl d_md_take_88 ?_
        refine lv_aload_n (pc := 91) hx hb d_md_take_91 rfl (lv_at hl 0 rfl) ?_
        refine va_get (pc := 92) (D := D) (ci := 4) (v := .int mp) (C := "TorsionDeskModel") (T := tX4) (N := 20) hx hb hB lX4 hown hK hP 0 rfl rfl 8 (by decide) (hB _ zw_425) (fun _ h9 => h9) rfl d_md_take_92 ?_
        refine lv_iload_n (pc := 95) hx hb d_md_take_95 rfl (lv_at hl 2 rfl) ?_
        refine va_iast (pc := 96) hx hb hK hP hD hS 2 0 rfl rfl g3 d_md_take_96 (fun H locs hP hD hS => ?_)
        have hP : va_P D vwCl [(qm, .inr (4, [.int mt, .int mh, .int ma, .int mc, .long m1, .long m2, .long m3, .long m4, .int mp, .ref qa, .ref qb, .ref qc, .int f0_12_24, .int f0_13_24, .long f0_14_24, .long f0_15_24, .int mr, .int ml, .int mf, .int ms])), (qa, .inl (cI, 40, .inl (upd pa mp.toNatClampNeg i1))), (qb, .inl (cI, 40, .inl (upd pb mp.toNatClampNeg i2))), (qc, .inl (cI, 40, .inl po))] H := hP
        have hD : va_D A [(qm, .inr (4, [.int mt, .int mh, .int ma, .int mc, .long m1, .long m2, .long m3, .long m4, .int mp, .ref qa, .ref qb, .ref qc, .int f0_12_24, .int f0_13_24, .long f0_14_24, .long f0_15_24, .int mr, .int ml, .int mf, .int ms])), (qa, .inl (cI, 40, .inl (upd pa mp.toNatClampNeg i1))), (qb, .inl (cI, 40, .inl (upd pb mp.toNatClampNeg i2))), (qc, .inl (cI, 40, .inl po))] := hD
        refine lv_aload_n (pc := 97) hx hb d_md_take_97 rfl (lv_at hl 0 rfl) ?_
        refine va_get (pc := 98) (D := D) (ci := 4) (v := .ref qc) (C := "TorsionDeskModel") (T := tX4) (N := 20) hx hb hB lX4 hown hK hP 0 rfl rfl 11 (by decide) (hB _ zw_428) (fun _ h9 => h9) rfl d_md_take_98 ?_
        refine lv_aload_n (pc := 101) hx hb d_md_take_101 rfl (lv_at hl 0 rfl) ?_
        refine va_get (pc := 102) (D := D) (ci := 4) (v := .int mp) (C := "TorsionDeskModel") (T := tX4) (N := 20) hx hb hB lX4 hown hK hP 0 rfl rfl 8 (by decide) (hB _ zw_425) (fun _ h9 => h9) rfl d_md_take_102 ?_
        refine lv_iload_n (pc := 105) hx hb d_md_take_105 rfl (lv_at hl 3 rfl) ?_
        refine va_iast (pc := 106) hx hb hK hP hD hS 3 0 rfl rfl g3 d_md_take_106 (fun H locs hP hD hS => ?_)
        have hP : va_P D vwCl [(qm, .inr (4, [.int mt, .int mh, .int ma, .int mc, .long m1, .long m2, .long m3, .long m4, .int mp, .ref qa, .ref qb, .ref qc, .int f0_12_24, .int f0_13_24, .long f0_14_24, .long f0_15_24, .int mr, .int ml, .int mf, .int ms])), (qa, .inl (cI, 40, .inl (upd pa mp.toNatClampNeg i1))), (qb, .inl (cI, 40, .inl (upd pb mp.toNatClampNeg i2))), (qc, .inl (cI, 40, .inl (upd po mp.toNatClampNeg x3_24)))] H := hP
        have hD : va_D A [(qm, .inr (4, [.int mt, .int mh, .int ma, .int mc, .long m1, .long m2, .long m3, .long m4, .int mp, .ref qa, .ref qb, .ref qc, .int f0_12_24, .int f0_13_24, .long f0_14_24, .long f0_15_24, .int mr, .int ml, .int mf, .int ms])), (qa, .inl (cI, 40, .inl (upd pa mp.toNatClampNeg i1))), (qb, .inl (cI, 40, .inl (upd pb mp.toNatClampNeg i2))), (qc, .inl (cI, 40, .inl (upd po mp.toNatClampNeg x3_24)))] := hD
        refine lv_aload_n (pc := 107) hx hb d_md_take_107 rfl (lv_at hl 0 rfl) ?_
        refine lv_dup (pc := 108) hx hb d_md_take_108 rfl ?_
        refine va_get (pc := 109) (D := D) (ci := 4) (v := .int mp) (C := "TorsionDeskModel") (T := tX4) (N := 20) hx hb hB lX4 hown hK hP 0 rfl rfl 8 (by decide) (hB _ zw_425) (fun _ h9 => h9) rfl d_md_take_109 ?_
        refine lv_iconst (pc := 112) (v := (1 : Int32)) hx hb d_md_take_112 (by decide) ?_
        refine lv_iadd (pc := 113) hx hb d_md_take_113 ?_
        refine va_put (pc := 114) (D := D) (ci := 4) (v := .int (mp + (1 : Int32))) (ty := .int) (C := "TorsionDeskModel") (T := tX4) (N := 20) hx hb hB lX4 yX4 yX4_ok nX4 hown hK hP hD hS 0 rfl rfl 8 (by decide) (hB _ zw_425) (fun _ h9 => h9) rfl (by decide +kernel) rfl rfl (Nat.le_of_ble_eq_true rfl) d_md_take_114 (fun H locs hP hD hS => ?_)
        have hP : va_P D vwCl [(qm, .inr (4, [.int mt, .int mh, .int ma, .int mc, .long m1, .long m2, .long m3, .long m4, .int (mp + (1 : Int32)), .ref qa, .ref qb, .ref qc, .int f0_12_24, .int f0_13_24, .long f0_14_24, .long f0_15_24, .int mr, .int ml, .int mf, .int ms])), (qa, .inl (cI, 40, .inl (upd pa mp.toNatClampNeg i1))), (qb, .inl (cI, 40, .inl (upd pb mp.toNatClampNeg i2))), (qc, .inl (cI, 40, .inl (upd po mp.toNatClampNeg x3_24)))] H := hP
        have hD : va_D A [(qm, .inr (4, [.int mt, .int mh, .int ma, .int mc, .long m1, .long m2, .long m3, .long m4, .int (mp + (1 : Int32)), .ref qa, .ref qb, .ref qc, .int f0_12_24, .int f0_13_24, .long f0_14_24, .long f0_15_24, .int mr, .int ml, .int mf, .int ms])), (qa, .inl (cI, 40, .inl (upd pa mp.toNatClampNeg i1))), (qb, .inl (cI, 40, .inl (upd pb mp.toNatClampNeg i2))), (qc, .inl (cI, 40, .inl (upd po mp.toNatClampNeg x3_24)))] := hD
        cases hm
        rw [hQ]
        exact W.vret (pc := 117) hx hb hr (fun t ht _ => ⟨rfl, by rw [ht]; exact hP, hS.F ht⟩) hS.2.2 d_md_take_117
      rw [if_neg h1] at hm
      refine lv_aload_n (pc := 30) hx hb d_md_take_30 rfl (lv_at hl 0 rfl) ?_
      refine va_get (pc := 31) (D := D) (ci := 4) (v := .int f0_12_24) (C := "TorsionDeskModel") (T := tX4) (N := 20) hx hb hB lX4 hown hK hP 0 rfl rfl 12 (by decide) (hB _ zw_429) (fun _ h9 => h9) rfl d_md_take_31 ?_
      refine lv_if_ne (pc := 34) (tgt := 70) hx hb d_md_take_34 rfl (fun h4 => ?_) (fun h4 => ?_)
      · rw [if_neg h4] at hm
        refine lv_aload_n (pc := 70) hx hb d_md_take_70 rfl (lv_at hl 0 rfl) ?_
        refine va_get (pc := 71) (D := D) (ci := 4) (v := .int f0_12_24) (C := "TorsionDeskModel") (T := tX4) (N := 20) hx hb hB lX4 hown hK hP 0 rfl rfl 12 (by decide) (hB _ zw_429) (fun _ h9 => h9) rfl d_md_take_71 ?_
        refine lv_if_eq (pc := 74) (tgt := 117) hx hb d_md_take_74 rfl (fun h5 => ?_) (fun h5 => ?_)
        · rw [if_pos h5] at hm
          cases hm
          rw [hQ]
          exact W.vret (pc := 117) hx hb hr (fun t ht _ => ⟨rfl, by rw [ht]; exact hP, hS.F ht⟩) hS.2.2 d_md_take_117
        rw [if_neg h5] at hm
        refine lv_aload_n (pc := 77) hx hb d_md_take_77 rfl (lv_at hl 0 rfl) ?_
        refine va_get (pc := 78) (D := D) (ci := 4) (v := .ref qa) (C := "TorsionDeskModel") (T := tX4) (N := 20) hx hb hB lX4 hown hK hP 0 rfl rfl 9 (by decide) (hB _ zw_426) (fun _ h9 => h9) rfl d_md_take_78 ?_
        refine lv_aload_n (pc := 81) hx hb d_md_take_81 rfl (lv_at hl 0 rfl) ?_
        refine va_get (pc := 82) (D := D) (ci := 4) (v := .int mp) (C := "TorsionDeskModel") (T := tX4) (N := 20) hx hb hB lX4 hown hK hP 0 rfl rfl 8 (by decide) (hB _ zw_425) (fun _ h9 => h9) rfl d_md_take_82 ?_
        refine lv_iload_n (pc := 85) hx hb d_md_take_85 rfl (lv_at hl 1 rfl) ?_
        by_cases g6 : (mp < 0 ∨ 40 ≤ mp.toNatClampNeg)
        · rw [if_pos g6] at hm; cases hm
        rw [if_neg g6] at hm
        refine va_iast (pc := 86) hx hb hK hP hD hS 1 0 rfl rfl g6 d_md_take_86 (fun H locs hP hD hS => ?_)
        have hP : va_P D vwCl [(qm, .inr (4, [.int mt, .int mh, .int ma, .int mc, .long m1, .long m2, .long m3, .long m4, .int mp, .ref qa, .ref qb, .ref qc, .int f0_12_24, .int f0_13_24, .long f0_14_24, .long f0_15_24, .int mr, .int ml, .int mf, .int ms])), (qa, .inl (cI, 40, .inl (upd pa mp.toNatClampNeg i1))), (qb, .inl (cI, 40, .inl pb)), (qc, .inl (cI, 40, .inl po))] H := hP
        have hD : va_D A [(qm, .inr (4, [.int mt, .int mh, .int ma, .int mc, .long m1, .long m2, .long m3, .long m4, .int mp, .ref qa, .ref qb, .ref qc, .int f0_12_24, .int f0_13_24, .long f0_14_24, .long f0_15_24, .int mr, .int ml, .int mf, .int ms])), (qa, .inl (cI, 40, .inl (upd pa mp.toNatClampNeg i1))), (qb, .inl (cI, 40, .inl pb)), (qc, .inl (cI, 40, .inl po))] := hD
        refine lv_aload_n (pc := 87) hx hb d_md_take_87 rfl (lv_at hl 0 rfl) ?_
        refine va_get (pc := 88) (D := D) (ci := 4) (v := .ref qb) (C := "TorsionDeskModel") (T := tX4) (N := 20) hx hb hB lX4 hown hK hP 0 rfl rfl 10 (by decide) (hB _ zw_427) (fun _ h9 => h9) rfl d_md_take_88 ?_
        refine lv_aload_n (pc := 91) hx hb d_md_take_91 rfl (lv_at hl 0 rfl) ?_
        refine va_get (pc := 92) (D := D) (ci := 4) (v := .int mp) (C := "TorsionDeskModel") (T := tX4) (N := 20) hx hb hB lX4 hown hK hP 0 rfl rfl 8 (by decide) (hB _ zw_425) (fun _ h9 => h9) rfl d_md_take_92 ?_
        refine lv_iload_n (pc := 95) hx hb d_md_take_95 rfl (lv_at hl 2 rfl) ?_
        refine va_iast (pc := 96) hx hb hK hP hD hS 2 0 rfl rfl g6 d_md_take_96 (fun H locs hP hD hS => ?_)
        have hP : va_P D vwCl [(qm, .inr (4, [.int mt, .int mh, .int ma, .int mc, .long m1, .long m2, .long m3, .long m4, .int mp, .ref qa, .ref qb, .ref qc, .int f0_12_24, .int f0_13_24, .long f0_14_24, .long f0_15_24, .int mr, .int ml, .int mf, .int ms])), (qa, .inl (cI, 40, .inl (upd pa mp.toNatClampNeg i1))), (qb, .inl (cI, 40, .inl (upd pb mp.toNatClampNeg i2))), (qc, .inl (cI, 40, .inl po))] H := hP
        have hD : va_D A [(qm, .inr (4, [.int mt, .int mh, .int ma, .int mc, .long m1, .long m2, .long m3, .long m4, .int mp, .ref qa, .ref qb, .ref qc, .int f0_12_24, .int f0_13_24, .long f0_14_24, .long f0_15_24, .int mr, .int ml, .int mf, .int ms])), (qa, .inl (cI, 40, .inl (upd pa mp.toNatClampNeg i1))), (qb, .inl (cI, 40, .inl (upd pb mp.toNatClampNeg i2))), (qc, .inl (cI, 40, .inl po))] := hD
        refine lv_aload_n (pc := 97) hx hb d_md_take_97 rfl (lv_at hl 0 rfl) ?_
        refine va_get (pc := 98) (D := D) (ci := 4) (v := .ref qc) (C := "TorsionDeskModel") (T := tX4) (N := 20) hx hb hB lX4 hown hK hP 0 rfl rfl 11 (by decide) (hB _ zw_428) (fun _ h9 => h9) rfl d_md_take_98 ?_
        refine lv_aload_n (pc := 101) hx hb d_md_take_101 rfl (lv_at hl 0 rfl) ?_
        refine va_get (pc := 102) (D := D) (ci := 4) (v := .int mp) (C := "TorsionDeskModel") (T := tX4) (N := 20) hx hb hB lX4 hown hK hP 0 rfl rfl 8 (by decide) (hB _ zw_425) (fun _ h9 => h9) rfl d_md_take_102 ?_
        refine lv_iload_n (pc := 105) hx hb d_md_take_105 rfl (lv_at hl 3 rfl) ?_
        refine va_iast (pc := 106) hx hb hK hP hD hS 3 0 rfl rfl g6 d_md_take_106 (fun H locs hP hD hS => ?_)
        have hP : va_P D vwCl [(qm, .inr (4, [.int mt, .int mh, .int ma, .int mc, .long m1, .long m2, .long m3, .long m4, .int mp, .ref qa, .ref qb, .ref qc, .int f0_12_24, .int f0_13_24, .long f0_14_24, .long f0_15_24, .int mr, .int ml, .int mf, .int ms])), (qa, .inl (cI, 40, .inl (upd pa mp.toNatClampNeg i1))), (qb, .inl (cI, 40, .inl (upd pb mp.toNatClampNeg i2))), (qc, .inl (cI, 40, .inl (upd po mp.toNatClampNeg x3_24)))] H := hP
        have hD : va_D A [(qm, .inr (4, [.int mt, .int mh, .int ma, .int mc, .long m1, .long m2, .long m3, .long m4, .int mp, .ref qa, .ref qb, .ref qc, .int f0_12_24, .int f0_13_24, .long f0_14_24, .long f0_15_24, .int mr, .int ml, .int mf, .int ms])), (qa, .inl (cI, 40, .inl (upd pa mp.toNatClampNeg i1))), (qb, .inl (cI, 40, .inl (upd pb mp.toNatClampNeg i2))), (qc, .inl (cI, 40, .inl (upd po mp.toNatClampNeg x3_24)))] := hD
        refine lv_aload_n (pc := 107) hx hb d_md_take_107 rfl (lv_at hl 0 rfl) ?_
        refine lv_dup (pc := 108) hx hb d_md_take_108 rfl ?_
        refine va_get (pc := 109) (D := D) (ci := 4) (v := .int mp) (C := "TorsionDeskModel") (T := tX4) (N := 20) hx hb hB lX4 hown hK hP 0 rfl rfl 8 (by decide) (hB _ zw_425) (fun _ h9 => h9) rfl d_md_take_109 ?_
        refine lv_iconst (pc := 112) (v := (1 : Int32)) hx hb d_md_take_112 (by decide) ?_
        refine lv_iadd (pc := 113) hx hb d_md_take_113 ?_
        refine va_put (pc := 114) (D := D) (ci := 4) (v := .int (mp + (1 : Int32))) (ty := .int) (C := "TorsionDeskModel") (T := tX4) (N := 20) hx hb hB lX4 yX4 yX4_ok nX4 hown hK hP hD hS 0 rfl rfl 8 (by decide) (hB _ zw_425) (fun _ h9 => h9) rfl (by decide +kernel) rfl rfl (Nat.le_of_ble_eq_true rfl) d_md_take_114 (fun H locs hP hD hS => ?_)
        have hP : va_P D vwCl [(qm, .inr (4, [.int mt, .int mh, .int ma, .int mc, .long m1, .long m2, .long m3, .long m4, .int (mp + (1 : Int32)), .ref qa, .ref qb, .ref qc, .int f0_12_24, .int f0_13_24, .long f0_14_24, .long f0_15_24, .int mr, .int ml, .int mf, .int ms])), (qa, .inl (cI, 40, .inl (upd pa mp.toNatClampNeg i1))), (qb, .inl (cI, 40, .inl (upd pb mp.toNatClampNeg i2))), (qc, .inl (cI, 40, .inl (upd po mp.toNatClampNeg x3_24)))] H := hP
        have hD : va_D A [(qm, .inr (4, [.int mt, .int mh, .int ma, .int mc, .long m1, .long m2, .long m3, .long m4, .int (mp + (1 : Int32)), .ref qa, .ref qb, .ref qc, .int f0_12_24, .int f0_13_24, .long f0_14_24, .long f0_15_24, .int mr, .int ml, .int mf, .int ms])), (qa, .inl (cI, 40, .inl (upd pa mp.toNatClampNeg i1))), (qb, .inl (cI, 40, .inl (upd pb mp.toNatClampNeg i2))), (qc, .inl (cI, 40, .inl (upd po mp.toNatClampNeg x3_24)))] := hD
        cases hm
        rw [hQ]
        exact W.vret (pc := 117) hx hb hr (fun t ht _ => ⟨rfl, by rw [ht]; exact hP, hS.F ht⟩) hS.2.2 d_md_take_117
      rw [if_pos h4] at hm
      refine lv_aload_n (pc := 37) hx hb d_md_take_37 rfl (lv_at hl 0 rfl) ?_
      refine va_get (pc := 38) (D := D) (ci := 4) (v := .int f0_13_24) (C := "TorsionDeskModel") (T := tX4) (N := 20) hx hb hB lX4 hown hK hP 0 rfl rfl 13 (by decide) (hB _ zw_430) (fun _ h9 => h9) rfl d_md_take_38 ?_
      refine lv_if_eq (pc := 41) (tgt := 70) hx hb d_md_take_41 rfl (fun h7 => ?_) (fun h7 => ?_)
      · rw [if_pos h7] at hm
        refine lv_aload_n (pc := 70) hx hb d_md_take_70 rfl (lv_at hl 0 rfl) ?_
        refine va_get (pc := 71) (D := D) (ci := 4) (v := .int f0_12_24) (C := "TorsionDeskModel") (T := tX4) (N := 20) hx hb hB lX4 hown hK hP 0 rfl rfl 12 (by decide) (hB _ zw_429) (fun _ h9 => h9) rfl d_md_take_71 ?_
        refine lv_if_eq (pc := 74) (tgt := 117) hx hb d_md_take_74 rfl (fun h8 => ?_) (fun h8 => ?_)
        · rw [if_pos h8] at hm
          cases hm
          rw [hQ]
          exact W.vret (pc := 117) hx hb hr (fun t ht _ => ⟨rfl, by rw [ht]; exact hP, hS.F ht⟩) hS.2.2 d_md_take_117
        rw [if_neg h8] at hm
        refine lv_aload_n (pc := 77) hx hb d_md_take_77 rfl (lv_at hl 0 rfl) ?_
        refine va_get (pc := 78) (D := D) (ci := 4) (v := .ref qa) (C := "TorsionDeskModel") (T := tX4) (N := 20) hx hb hB lX4 hown hK hP 0 rfl rfl 9 (by decide) (hB _ zw_426) (fun _ h9 => h9) rfl d_md_take_78 ?_
        refine lv_aload_n (pc := 81) hx hb d_md_take_81 rfl (lv_at hl 0 rfl) ?_
        refine va_get (pc := 82) (D := D) (ci := 4) (v := .int mp) (C := "TorsionDeskModel") (T := tX4) (N := 20) hx hb hB lX4 hown hK hP 0 rfl rfl 8 (by decide) (hB _ zw_425) (fun _ h9 => h9) rfl d_md_take_82 ?_
        refine lv_iload_n (pc := 85) hx hb d_md_take_85 rfl (lv_at hl 1 rfl) ?_
        by_cases g9 : (mp < 0 ∨ 40 ≤ mp.toNatClampNeg)
        · rw [if_pos g9] at hm; cases hm
        rw [if_neg g9] at hm
        refine va_iast (pc := 86) hx hb hK hP hD hS 1 0 rfl rfl g9 d_md_take_86 (fun H locs hP hD hS => ?_)
        have hP : va_P D vwCl [(qm, .inr (4, [.int mt, .int mh, .int ma, .int mc, .long m1, .long m2, .long m3, .long m4, .int mp, .ref qa, .ref qb, .ref qc, .int f0_12_24, .int f0_13_24, .long f0_14_24, .long f0_15_24, .int mr, .int ml, .int mf, .int ms])), (qa, .inl (cI, 40, .inl (upd pa mp.toNatClampNeg i1))), (qb, .inl (cI, 40, .inl pb)), (qc, .inl (cI, 40, .inl po))] H := hP
        have hD : va_D A [(qm, .inr (4, [.int mt, .int mh, .int ma, .int mc, .long m1, .long m2, .long m3, .long m4, .int mp, .ref qa, .ref qb, .ref qc, .int f0_12_24, .int f0_13_24, .long f0_14_24, .long f0_15_24, .int mr, .int ml, .int mf, .int ms])), (qa, .inl (cI, 40, .inl (upd pa mp.toNatClampNeg i1))), (qb, .inl (cI, 40, .inl pb)), (qc, .inl (cI, 40, .inl po))] := hD
        refine lv_aload_n (pc := 87) hx hb d_md_take_87 rfl (lv_at hl 0 rfl) ?_
        refine va_get (pc := 88) (D := D) (ci := 4) (v := .ref qb) (C := "TorsionDeskModel") (T := tX4) (N := 20) hx hb hB lX4 hown hK hP 0 rfl rfl 10 (by decide) (hB _ zw_427) (fun _ h9 => h9) rfl d_md_take_88 ?_
        refine lv_aload_n (pc := 91) hx hb d_md_take_91 rfl (lv_at hl 0 rfl) ?_
        refine va_get (pc := 92) (D := D) (ci := 4) (v := .int mp) (C := "TorsionDeskModel") (T := tX4) (N := 20) hx hb hB lX4 hown hK hP 0 rfl rfl 8 (by decide) (hB _ zw_425) (fun _ h9 => h9) rfl d_md_take_92 ?_
        refine lv_iload_n (pc := 95) hx hb d_md_take_95 rfl (lv_at hl 2 rfl) ?_
        refine va_iast (pc := 96) hx hb hK hP hD hS 2 0 rfl rfl g9 d_md_take_96 (fun H locs hP hD hS => ?_)
        have hP : va_P D vwCl [(qm, .inr (4, [.int mt, .int mh, .int ma, .int mc, .long m1, .long m2, .long m3, .long m4, .int mp, .ref qa, .ref qb, .ref qc, .int f0_12_24, .int f0_13_24, .long f0_14_24, .long f0_15_24, .int mr, .int ml, .int mf, .int ms])), (qa, .inl (cI, 40, .inl (upd pa mp.toNatClampNeg i1))), (qb, .inl (cI, 40, .inl (upd pb mp.toNatClampNeg i2))), (qc, .inl (cI, 40, .inl po))] H := hP
        have hD : va_D A [(qm, .inr (4, [.int mt, .int mh, .int ma, .int mc, .long m1, .long m2, .long m3, .long m4, .int mp, .ref qa, .ref qb, .ref qc, .int f0_12_24, .int f0_13_24, .long f0_14_24, .long f0_15_24, .int mr, .int ml, .int mf, .int ms])), (qa, .inl (cI, 40, .inl (upd pa mp.toNatClampNeg i1))), (qb, .inl (cI, 40, .inl (upd pb mp.toNatClampNeg i2))), (qc, .inl (cI, 40, .inl po))] := hD
        refine lv_aload_n (pc := 97) hx hb d_md_take_97 rfl (lv_at hl 0 rfl) ?_
        refine va_get (pc := 98) (D := D) (ci := 4) (v := .ref qc) (C := "TorsionDeskModel") (T := tX4) (N := 20) hx hb hB lX4 hown hK hP 0 rfl rfl 11 (by decide) (hB _ zw_428) (fun _ h9 => h9) rfl d_md_take_98 ?_
        refine lv_aload_n (pc := 101) hx hb d_md_take_101 rfl (lv_at hl 0 rfl) ?_
        refine va_get (pc := 102) (D := D) (ci := 4) (v := .int mp) (C := "TorsionDeskModel") (T := tX4) (N := 20) hx hb hB lX4 hown hK hP 0 rfl rfl 8 (by decide) (hB _ zw_425) (fun _ h9 => h9) rfl d_md_take_102 ?_
        refine lv_iload_n (pc := 105) hx hb d_md_take_105 rfl (lv_at hl 3 rfl) ?_
        refine va_iast (pc := 106) hx hb hK hP hD hS 3 0 rfl rfl g9 d_md_take_106 (fun H locs hP hD hS => ?_)
        have hP : va_P D vwCl [(qm, .inr (4, [.int mt, .int mh, .int ma, .int mc, .long m1, .long m2, .long m3, .long m4, .int mp, .ref qa, .ref qb, .ref qc, .int f0_12_24, .int f0_13_24, .long f0_14_24, .long f0_15_24, .int mr, .int ml, .int mf, .int ms])), (qa, .inl (cI, 40, .inl (upd pa mp.toNatClampNeg i1))), (qb, .inl (cI, 40, .inl (upd pb mp.toNatClampNeg i2))), (qc, .inl (cI, 40, .inl (upd po mp.toNatClampNeg x3_24)))] H := hP
        have hD : va_D A [(qm, .inr (4, [.int mt, .int mh, .int ma, .int mc, .long m1, .long m2, .long m3, .long m4, .int mp, .ref qa, .ref qb, .ref qc, .int f0_12_24, .int f0_13_24, .long f0_14_24, .long f0_15_24, .int mr, .int ml, .int mf, .int ms])), (qa, .inl (cI, 40, .inl (upd pa mp.toNatClampNeg i1))), (qb, .inl (cI, 40, .inl (upd pb mp.toNatClampNeg i2))), (qc, .inl (cI, 40, .inl (upd po mp.toNatClampNeg x3_24)))] := hD
        refine lv_aload_n (pc := 107) hx hb d_md_take_107 rfl (lv_at hl 0 rfl) ?_
        refine lv_dup (pc := 108) hx hb d_md_take_108 rfl ?_
        refine va_get (pc := 109) (D := D) (ci := 4) (v := .int mp) (C := "TorsionDeskModel") (T := tX4) (N := 20) hx hb hB lX4 hown hK hP 0 rfl rfl 8 (by decide) (hB _ zw_425) (fun _ h9 => h9) rfl d_md_take_109 ?_
        refine lv_iconst (pc := 112) (v := (1 : Int32)) hx hb d_md_take_112 (by decide) ?_
        refine lv_iadd (pc := 113) hx hb d_md_take_113 ?_
        refine va_put (pc := 114) (D := D) (ci := 4) (v := .int (mp + (1 : Int32))) (ty := .int) (C := "TorsionDeskModel") (T := tX4) (N := 20) hx hb hB lX4 yX4 yX4_ok nX4 hown hK hP hD hS 0 rfl rfl 8 (by decide) (hB _ zw_425) (fun _ h9 => h9) rfl (by decide +kernel) rfl rfl (Nat.le_of_ble_eq_true rfl) d_md_take_114 (fun H locs hP hD hS => ?_)
        have hP : va_P D vwCl [(qm, .inr (4, [.int mt, .int mh, .int ma, .int mc, .long m1, .long m2, .long m3, .long m4, .int (mp + (1 : Int32)), .ref qa, .ref qb, .ref qc, .int f0_12_24, .int f0_13_24, .long f0_14_24, .long f0_15_24, .int mr, .int ml, .int mf, .int ms])), (qa, .inl (cI, 40, .inl (upd pa mp.toNatClampNeg i1))), (qb, .inl (cI, 40, .inl (upd pb mp.toNatClampNeg i2))), (qc, .inl (cI, 40, .inl (upd po mp.toNatClampNeg x3_24)))] H := hP
        have hD : va_D A [(qm, .inr (4, [.int mt, .int mh, .int ma, .int mc, .long m1, .long m2, .long m3, .long m4, .int (mp + (1 : Int32)), .ref qa, .ref qb, .ref qc, .int f0_12_24, .int f0_13_24, .long f0_14_24, .long f0_15_24, .int mr, .int ml, .int mf, .int ms])), (qa, .inl (cI, 40, .inl (upd pa mp.toNatClampNeg i1))), (qb, .inl (cI, 40, .inl (upd pb mp.toNatClampNeg i2))), (qc, .inl (cI, 40, .inl (upd po mp.toNatClampNeg x3_24)))] := hD
        cases hm
        rw [hQ]
        exact W.vret (pc := 117) hx hb hr (fun t ht _ => ⟨rfl, by rw [ht]; exact hP, hS.F ht⟩) hS.2.2 d_md_take_117
      rw [if_neg h7] at hm
      refine lv_aload_n (pc := 44) hx hb d_md_take_44 rfl (lv_at hl 0 rfl) ?_
      refine lv_aload_n (pc := 45) hx hb d_md_take_45 rfl (lv_at hl 0 rfl) ?_
      refine va_get (pc := 46) (D := D) (ci := 4) (v := .int f0_12_24) (C := "TorsionDeskModel") (T := tX4) (N := 20) hx hb hB lX4 hown hK hP 0 rfl rfl 12 (by decide) (hB _ zw_429) (fun _ h9 => h9) rfl d_md_take_46 ?_
      refine lv_aload_n (pc := 49) hx hb d_md_take_49 rfl (lv_at hl 0 rfl) ?_
      refine va_get (pc := 50) (D := D) (ci := 4) (v := .long f0_14_24) (C := "TorsionDeskModel") (T := tX4) (N := 20) hx hb hB lX4 hown hK hP 0 rfl rfl 14 (by decide) (hB _ zw_431) (fun _ h9 => h9) rfl d_md_take_50 ?_
      refine lv_aload_n (pc := 53) hx hb d_md_take_53 rfl (lv_at hl 0 rfl) ?_
      refine va_get (pc := 54) (D := D) (ci := 4) (v := .long f0_15_24) (C := "TorsionDeskModel") (T := tX4) (N := 20) hx hb hB lX4 hown hK hP 0 rfl rfl 15 (by decide) (hB _ zw_432) (fun _ h9 => h9) rfl d_md_take_54 ?_
      refine lv_iload_n (pc := 57) hx hb d_md_take_57 rfl (lv_at hl 1 rfl) ?_
      refine lv_i2l (pc := 58) hx hb d_md_take_58 rfl ?_
      refine lv_iload_n (pc := 59) hx hb d_md_take_59 rfl (lv_at hl 2 rfl) ?_
      refine lv_i2l (pc := 60) hx hb d_md_take_60 rfl ?_
      obtain ⟨⟨o0_12_c61, o0_13_c61, o0_14_c61, o0_15_c61⟩, c10, hm⟩ := zbind hm
      try dsimp only at hm
      refine zwV (pc := 61) (As := [.int f0_12_24, .long f0_14_24, .long f0_15_24, .long i1.toInt64, .long i2.toInt64]) (rest := []) ⟨hx, hb, hml, hown, hB⟩ (w_a_md_add l D cI cJ qm qa qb qc mt mh ma mc mp f0_12_24 f0_13_24 mr ml mf ms m1 m2 m3 m4 f0_14_24 f0_15_24 pa pb po f0_12_24 f0_14_24 f0_15_24 i1.toInt64 i2.toInt64 o0_12_c61 o0_13_c61 o0_14_c61 o0_15_c61 c10) (cwV 5 hB (zgV zw_503 zw_505 zv_md_add zw_5 zw_506) rfl rfl rfl (by decide +kernel) ⟨by rw [hR]; exact Nat.le_of_ble_eq_true rfl, by rw [hR]; exact Nat.le_of_ble_eq_true rfl⟩) hK hP hD hS [0, 1, 2, 3] (by decide) rfl rfl rfl rfl rfl rfl hl.1 rfl (Nat.le_of_ble_eq_true rfl) d_md_take_61 ⟨Nat.zero_le _, Nat.zero_le _⟩ (fun H locs hP hD hS => ?_)
      have hP : va_P D vwCl [(qm, .inr (4, [.int mt, .int mh, .int ma, .int mc, .long m1, .long m2, .long m3, .long m4, .int mp, .ref qa, .ref qb, .ref qc, .int o0_12_c61, .int o0_13_c61, .long o0_14_c61, .long o0_15_c61, .int mr, .int ml, .int mf, .int ms])), (qa, .inl (cI, 40, .inl pa)), (qb, .inl (cI, 40, .inl pb)), (qc, .inl (cI, 40, .inl po))] H := hP
      have hD : va_D A [(qm, .inr (4, [.int mt, .int mh, .int ma, .int mc, .long m1, .long m2, .long m3, .long m4, .int mp, .ref qa, .ref qb, .ref qc, .int o0_12_c61, .int o0_13_c61, .long o0_14_c61, .long o0_15_c61, .int mr, .int ml, .int mf, .int ms])), (qa, .inl (cI, 40, .inl pa)), (qb, .inl (cI, 40, .inl pb)), (qc, .inl (cI, 40, .inl po))] := hD
      refine lv_iinc (pc := 64) (k := 3) (v := x3_24 + (1 : Int32)) (lv' := [(3, .int (x3_24 + (1 : Int32))), (0, .ref qm), (1, .int i1), (2, .int i2)]) hx hb d_md_take_64 hl rfl (congrArg (x3_24 + ·) (by decide)) (Nat.le_of_ble_eq_true rfl) rfl (fun ls hl => ?_)
      refine lv_goto (pc := 67) (tgt := 24) hx hb d_md_take_67 rfl ?_
      exact ih o0_12_c61 o0_13_c61 o0_14_c61 o0_15_c61 (x3_24 + (1 : Int32)) H locs ls (lv_sub hl [1, 2, 3, 0] rfl) hP hD hS hm
  have main : ∀ (H : Heap) (locs : List Loc), va_P D vwCl [(qm, .inr (4, [.int mt, .int mh, .int ma, .int mc, .long m1, .long m2, .long m3, .long m4, .int mp, .ref qa, .ref qb, .ref qc, .int mz, .int mw, .long mx, .long my, .int mr, .int ml, .int mf, .int ms])), (qa, .inl (cI, 40, .inl pa)), (qb, .inl (cI, 40, .inl pb)), (qc, .inl (cI, 40, .inl po))] H → va_D A [(qm, .inr (4, [.int mt, .int mh, .int ma, .int mc, .long m1, .long m2, .long m3, .long m4, .int mp, .ref qa, .ref qb, .ref qc, .int mz, .int mw, .long mx, .long my, .int mr, .int ml, .int mf, .int ms])), (qa, .inl (cI, 40, .inl pa)), (qb, .inl (cI, 40, .inl pb)), (qc, .inl (cI, 40, .inl po))] → va_S A s.heap H locs → W p l e R s m args below meth c H locs 0 0 Q (F0 m 0 ls []) := by
    intro H locs hP hD hS
    rw [a_md_take] at hm
    refine lv_aload_n (pc := 0) hx hb d_md_take_0 rfl (lv_at hl 0 rfl) ?_
    refine lv_iload_n (pc := 1) hx hb d_md_take_1 rfl (lv_at hl 1 rfl) ?_
    refine lv_i2l (pc := 2) hx hb d_md_take_2 rfl ?_
    refine va_put (pc := 3) (D := D) (ci := 4) (v := .long i1.toInt64) (ty := .long) (C := "TorsionDeskModel") (T := tX4) (N := 20) hx hb hB lX4 yX4 yX4_ok nX4 hown hK hP hD hS 0 rfl rfl 14 (by decide) (hB _ zw_431) (fun _ h9 => h9) rfl (by decide +kernel) rfl rfl (Nat.le_of_ble_eq_true rfl) d_md_take_3 (fun H locs hP hD hS => ?_)
    have hP : va_P D vwCl [(qm, .inr (4, [.int mt, .int mh, .int ma, .int mc, .long m1, .long m2, .long m3, .long m4, .int mp, .ref qa, .ref qb, .ref qc, .int mz, .int mw, .long i1.toInt64, .long my, .int mr, .int ml, .int mf, .int ms])), (qa, .inl (cI, 40, .inl pa)), (qb, .inl (cI, 40, .inl pb)), (qc, .inl (cI, 40, .inl po))] H := hP
    have hD : va_D A [(qm, .inr (4, [.int mt, .int mh, .int ma, .int mc, .long m1, .long m2, .long m3, .long m4, .int mp, .ref qa, .ref qb, .ref qc, .int mz, .int mw, .long i1.toInt64, .long my, .int mr, .int ml, .int mf, .int ms])), (qa, .inl (cI, 40, .inl pa)), (qb, .inl (cI, 40, .inl pb)), (qc, .inl (cI, 40, .inl po))] := hD
    refine lv_aload_n (pc := 6) hx hb d_md_take_6 rfl (lv_at hl 0 rfl) ?_
    refine lv_iload_n (pc := 7) hx hb d_md_take_7 rfl (lv_at hl 2 rfl) ?_
    refine lv_i2l (pc := 8) hx hb d_md_take_8 rfl ?_
    refine va_put (pc := 9) (D := D) (ci := 4) (v := .long i2.toInt64) (ty := .long) (C := "TorsionDeskModel") (T := tX4) (N := 20) hx hb hB lX4 yX4 yX4_ok nX4 hown hK hP hD hS 0 rfl rfl 15 (by decide) (hB _ zw_432) (fun _ h9 => h9) rfl (by decide +kernel) rfl rfl (Nat.le_of_ble_eq_true rfl) d_md_take_9 (fun H locs hP hD hS => ?_)
    have hP : va_P D vwCl [(qm, .inr (4, [.int mt, .int mh, .int ma, .int mc, .long m1, .long m2, .long m3, .long m4, .int mp, .ref qa, .ref qb, .ref qc, .int mz, .int mw, .long i1.toInt64, .long i2.toInt64, .int mr, .int ml, .int mf, .int ms])), (qa, .inl (cI, 40, .inl pa)), (qb, .inl (cI, 40, .inl pb)), (qc, .inl (cI, 40, .inl po))] H := hP
    have hD : va_D A [(qm, .inr (4, [.int mt, .int mh, .int ma, .int mc, .long m1, .long m2, .long m3, .long m4, .int mp, .ref qa, .ref qb, .ref qc, .int mz, .int mw, .long i1.toInt64, .long i2.toInt64, .int mr, .int ml, .int mf, .int ms])), (qa, .inl (cI, 40, .inl pa)), (qb, .inl (cI, 40, .inl pb)), (qc, .inl (cI, 40, .inl po))] := hD
    refine lv_aload_n (pc := 12) hx hb d_md_take_12 rfl (lv_at hl 0 rfl) ?_
    refine lv_iconst (pc := 13) (v := (0 : Int32)) hx hb d_md_take_13 (by decide) ?_
    refine va_put (pc := 14) (D := D) (ci := 4) (v := .int (0 : Int32)) (ty := .boolean) (C := "TorsionDeskModel") (T := tX4) (N := 20) hx hb hB lX4 yX4 yX4_ok nX4 hown hK hP hD hS 0 rfl rfl 12 (by decide) (hB _ zw_429) (fun _ h9 => h9) rfl (by decide +kernel) rfl rfl (Nat.le_of_ble_eq_true rfl) d_md_take_14 (fun H locs hP hD hS => ?_)
    have hP : va_P D vwCl [(qm, .inr (4, [.int mt, .int mh, .int ma, .int mc, .long m1, .long m2, .long m3, .long m4, .int mp, .ref qa, .ref qb, .ref qc, .int (0 : Int32), .int mw, .long i1.toInt64, .long i2.toInt64, .int mr, .int ml, .int mf, .int ms])), (qa, .inl (cI, 40, .inl pa)), (qb, .inl (cI, 40, .inl pb)), (qc, .inl (cI, 40, .inl po))] H := hP
    have hD : va_D A [(qm, .inr (4, [.int mt, .int mh, .int ma, .int mc, .long m1, .long m2, .long m3, .long m4, .int mp, .ref qa, .ref qb, .ref qc, .int (0 : Int32), .int mw, .long i1.toInt64, .long i2.toInt64, .int mr, .int ml, .int mf, .int ms])), (qa, .inl (cI, 40, .inl pa)), (qb, .inl (cI, 40, .inl pb)), (qc, .inl (cI, 40, .inl po))] := hD
    refine lv_aload_n (pc := 17) hx hb d_md_take_17 rfl (lv_at hl 0 rfl) ?_
    refine lv_iconst (pc := 18) (v := (1 : Int32)) hx hb d_md_take_18 (by decide) ?_
    refine va_put (pc := 19) (D := D) (ci := 4) (v := .int (1 : Int32)) (ty := .boolean) (C := "TorsionDeskModel") (T := tX4) (N := 20) hx hb hB lX4 yX4 yX4_ok nX4 hown hK hP hD hS 0 rfl rfl 13 (by decide) (hB _ zw_430) (fun _ h9 => h9) rfl (by decide +kernel) rfl rfl (Nat.le_of_ble_eq_true rfl) d_md_take_19 (fun H locs hP hD hS => ?_)
    have hP : va_P D vwCl [(qm, .inr (4, [.int mt, .int mh, .int ma, .int mc, .long m1, .long m2, .long m3, .long m4, .int mp, .ref qa, .ref qb, .ref qc, .int (0 : Int32), .int (1 : Int32), .long i1.toInt64, .long i2.toInt64, .int mr, .int ml, .int mf, .int ms])), (qa, .inl (cI, 40, .inl pa)), (qb, .inl (cI, 40, .inl pb)), (qc, .inl (cI, 40, .inl po))] H := hP
    have hD : va_D A [(qm, .inr (4, [.int mt, .int mh, .int ma, .int mc, .long m1, .long m2, .long m3, .long m4, .int mp, .ref qa, .ref qb, .ref qc, .int (0 : Int32), .int (1 : Int32), .long i1.toInt64, .long i2.toInt64, .int mr, .int ml, .int mf, .int ms])), (qa, .inl (cI, 40, .inl pa)), (qb, .inl (cI, 40, .inl pb)), (qc, .inl (cI, 40, .inl po))] := hD
    refine lv_iconst (pc := 22) (v := (1 : Int32)) hx hb d_md_take_22 (by decide) ?_
    refine lv_istore_n (pc := 23) (lv' := [(3, .int (1 : Int32)), (0, .ref qm), (1, .int i1), (2, .int i2)]) hx hb d_md_take_23 rfl hl (Nat.le_of_ble_eq_true rfl) rfl (fun ls hl => ?_)
    exact k24 N (0 : Int32) (1 : Int32) i1.toInt64 i2.toInt64 (1 : Int32) H locs ls (lv_sub hl [1, 2, 3, 0] rfl) hP hD hS hm
  exact main s.heap [] hP hD hS
abbrev rm_md_number : Room := { frames := 0, cells := 0, slots := 0, locals := 0 }
def a_md_number_L3 (mp : Int32) (pa : Nat → Int32) (pb : Nat → Int32) (j1 : Int64) (j2 : Int64) : Nat → Int32 → Option (Int32)
  | 0, _ => none
  | n + 1, x5_3 => (if mp ≤ x5_3 then (some (-1 : Int32)) else (if (x5_3 < 0 ∨ 40 ≤ x5_3.toNatClampNeg) then none else (if ((pa x5_3.toNatClampNeg).toInt64) = j1 then (if ((pb x5_3.toNatClampNeg).toInt64) = j2 then (some x5_3) else a_md_number_L3 mp pa pb j1 j2 n (x5_3 + (1 : Int32))) else a_md_number_L3 mp pa pb j1 j2 n (x5_3 + (1 : Int32)))))
def a_md_number (N : Nat) (mp : Int32) (pa : Nat → Int32) (pb : Nat → Int32) (j1 : Int64) (j2 : Int64) : Option (Int32) := a_md_number_L3 mp pa pb j1 j2 N (1 : Int32)
set_option maxHeartbeats 4000000 in
set_option maxRecDepth 100000 in
theorem w_a_md_number (l : Launch) (D : va_G) (cI cJ : ClassId) (qm : Nat) (qa : Nat) (qb : Nat) (qc : Nat) (mt : Int32) (mh : Int32) (ma : Int32) (mc : Int32) (mp : Int32) (mz : Int32) (mw : Int32) (mr : Int32) (ml : Int32) (mf : Int32) (ms : Int32) (m1 : Int64) (m2 : Int64) (m3 : Int64) (m4 : Int64) (mx : Int64) (my : Int64) (pa : Nat → Int32) (pb : Nat → Int32) (po : Nat → Int32) (j1 : Int64) (j2 : Int64) (N : Nat) (r0 : Int32) (hm : a_md_number N mp pa pb j1 j2 = some r0) : Met l y_md_number zs_md_number rm_md_number (zPc [.ref qm, .long j1, .long j2] D [(qm, .inr (4, [.int mt, .int mh, .int ma, .int mc, .long m1, .long m2, .long m3, .long m4, .int mp, .ref qa, .ref qb, .ref qc, .int mz, .int mw, .long mx, .long my, .int mr, .int ml, .int mf, .int ms])), (qa, .inl (cI, 40, .inl pa)), (qb, .inl (cI, 40, .inl pb)), (qc, .inl (cI, 40, .inl po))] [(cI, .int), (cJ, .long)]) (zRd (some (.int r0))) 0 0 (fun _ => False) := by
  refine zm (by decide) (Nat.le_of_ble_eq_true rfl) ?_
  intro p e s m args below meth c R Q hR hQ hargs hx hb hml hr hlocks hnm hB hown hP hK hD0 ls hl
  have hown : s.vm.findClass "TorsionDeskModel" = some m.cls := hown
  have hl : lv_has ls 6 [(0, .ref qm), (1, .long j1), (3, .long j2)] := hl
  have k3 : ∀ (n : Nat) (x5_3 : Int32) (ls : Array Slot), lv_has ls 6 [(0, .ref qm), (1, .long j1), (3, .long j2), (5, .int x5_3)] → a_md_number_L3 mp pa pb j1 j2 n x5_3 = some r0 → W p l e R s m args below meth c s.heap [] 0 0 Q (F0 m 3 ls []) := by
    intro n
    induction n with
    | zero => intro x5_3  ls hl hm; rw [a_md_number_L3] at hm; cases hm
    | succ n ih =>
      intro x5_3  ls hl hm
      rw [a_md_number_L3] at hm
      refine lv_iload (pc := 3) hx hb d_md_number_3 (lv_at hl 3 rfl) ?_
      refine lv_aload_n (pc := 5) hx hb d_md_number_5 rfl (lv_at hl 0 rfl) ?_
      refine va_get (pc := 6) (D := D) (ci := 4) (v := .int mp) (C := "TorsionDeskModel") (T := tX4) (N := 20) hx hb hB lX4 hown hK hP 0 rfl rfl 8 (by decide) (hB _ zw_425) (fun _ h9 => h9) rfl d_md_number_6 ?_
      refine lv_icmp_ge (pc := 9) (tgt := 47) hx hb d_md_number_9 rfl (fun h1 => ?_) (fun h1 => ?_)
      · rw [if_pos h1] at hm
        refine lv_iconst (pc := 47) (v := (-1 : Int32)) hx hb d_md_number_47 (by decide) ?_
        cases hm
        rw [hQ]
        exact W.iret (pc := 48) hx hb hr (fun t ht _ => ⟨rfl, ht⟩) (fun _ h9 => nomatch h9) d_md_number_48
      rw [if_neg h1] at hm
      refine lv_aload_n (pc := 12) hx hb d_md_number_12 rfl (lv_at hl 0 rfl) ?_
      refine va_get (pc := 13) (D := D) (ci := 4) (v := .ref qa) (C := "TorsionDeskModel") (T := tX4) (N := 20) hx hb hB lX4 hown hK hP 0 rfl rfl 9 (by decide) (hB _ zw_426) (fun _ h9 => h9) rfl d_md_number_13 ?_
      refine lv_iload (pc := 16) hx hb d_md_number_16 (lv_at hl 3 rfl) ?_
      by_cases g2 : (x5_3 < 0 ∨ 40 ≤ x5_3.toNatClampNeg)
      · rw [if_pos g2] at hm; cases hm
      rw [if_neg g2] at hm
      refine va_iald (pc := 18) hx hb hK hP 1 0 rfl rfl g2 d_md_number_18 ?_
      refine lv_i2l (pc := 19) hx hb d_md_number_19 rfl ?_
      refine lv_lload_n (pc := 20) hx hb d_md_number_20 rfl (lv_at hl 1 rfl) ?_
      refine zl_ne (pc := 21) (tgt := 41) hx hb d_md_number_21 d_md_number_22 rfl (fun h3 => ?_) (fun h3 => ?_)
      · rw [if_neg h3] at hm
        refine lv_iinc (pc := 41) (k := 3) (v := x5_3 + (1 : Int32)) (lv' := [(5, .int (x5_3 + (1 : Int32))), (0, .ref qm), (1, .long j1), (3, .long j2)]) hx hb d_md_number_41 hl rfl (congrArg (x5_3 + ·) (by decide)) (Nat.le_of_ble_eq_true rfl) rfl (fun ls hl => ?_)
        refine lv_goto (pc := 44) (tgt := 3) hx hb d_md_number_44 rfl ?_
        exact ih (x5_3 + (1 : Int32)) ls (lv_sub hl [1, 2, 3, 0] rfl) hm
      rw [if_pos h3] at hm
      refine lv_aload_n (pc := 25) hx hb d_md_number_25 rfl (lv_at hl 0 rfl) ?_
      refine va_get (pc := 26) (D := D) (ci := 4) (v := .ref qb) (C := "TorsionDeskModel") (T := tX4) (N := 20) hx hb hB lX4 hown hK hP 0 rfl rfl 10 (by decide) (hB _ zw_427) (fun _ h9 => h9) rfl d_md_number_26 ?_
      refine lv_iload (pc := 29) hx hb d_md_number_29 (lv_at hl 3 rfl) ?_
      refine va_iald (pc := 31) hx hb hK hP 2 0 rfl rfl g2 d_md_number_31 ?_
      refine lv_i2l (pc := 32) hx hb d_md_number_32 rfl ?_
      refine lv_lload_n (pc := 33) hx hb d_md_number_33 rfl (lv_at hl 2 rfl) ?_
      refine zl_ne (pc := 34) (tgt := 41) hx hb d_md_number_34 d_md_number_35 rfl (fun h4 => ?_) (fun h4 => ?_)
      · rw [if_neg h4] at hm
        refine lv_iinc (pc := 41) (k := 3) (v := x5_3 + (1 : Int32)) (lv' := [(5, .int (x5_3 + (1 : Int32))), (0, .ref qm), (1, .long j1), (3, .long j2)]) hx hb d_md_number_41 hl rfl (congrArg (x5_3 + ·) (by decide)) (Nat.le_of_ble_eq_true rfl) rfl (fun ls hl => ?_)
        refine lv_goto (pc := 44) (tgt := 3) hx hb d_md_number_44 rfl ?_
        exact ih (x5_3 + (1 : Int32)) ls (lv_sub hl [1, 2, 3, 0] rfl) hm
      rw [if_pos h4] at hm
      refine lv_iload (pc := 38) hx hb d_md_number_38 (lv_at hl 3 rfl) ?_
      cases hm
      rw [hQ]
      exact W.iret (pc := 40) hx hb hr (fun t ht _ => ⟨rfl, ht⟩) (fun _ h9 => nomatch h9) d_md_number_40
  rw [a_md_number] at hm
  refine lv_iconst (pc := 0) (v := (1 : Int32)) hx hb d_md_number_0 (by decide) ?_
  refine lv_istore (pc := 1) (lv' := [(5, .int (1 : Int32)), (0, .ref qm), (1, .long j1), (3, .long j2)]) hx hb d_md_number_1 hl (Nat.le_of_ble_eq_true rfl) rfl (fun ls hl => ?_)
  exact k3 N (1 : Int32) ls (lv_sub hl [1, 2, 3, 0] rfl) hm
abbrev rm_md_sumOf : Room := { frames := 1, cells := 0, slots := 0, locals := 38 }
def a_md_sumOf (N : Nat) (mp : Int32) (mz : Int32) (mw : Int32) (m1 : Int64) (m2 : Int64) (mx : Int64) (my : Int64) (pa : Nat → Int32) (pb : Nat → Int32) (i1 : Int32) (i2 : Int32) : Option (Int32 × Int32 × Int32 × Int64 × Int64) := (if i2 = 0 then (some (i1, mz, mw, mx, my)) else (if i1 = 0 then (if (i1 < 0 ∨ 40 ≤ i1.toNatClampNeg) then none else (if (i2 < 0 ∨ 40 ≤ i2.toNatClampNeg) then none else ((a_md_add m1 m2 mx my (1 : Int32) ((pa i1.toNatClampNeg).toInt64) ((pb i1.toNatClampNeg).toInt64) ((pa i2.toNatClampNeg).toInt64) ((pb i2.toNatClampNeg).toInt64)).bind (fun (o0_12_c44, o0_13_c44, o0_14_c44, o0_15_c44) => (if o0_12_c44 = 0 then ((a_md_number N mp pa pb o0_14_c44 o0_15_c44).bind (fun r_c67 => (some (r_c67, o0_12_c44, o0_13_c44, o0_14_c44, o0_15_c44)))) else (some ((0 : Int32), o0_12_c44, o0_13_c44, o0_14_c44, o0_15_c44))))))) else (if (i1 < 0 ∨ 40 ≤ i1.toNatClampNeg) then none else (if (i2 < 0 ∨ 40 ≤ i2.toNatClampNeg) then none else ((a_md_add m1 m2 mx my (0 : Int32) ((pa i1.toNatClampNeg).toInt64) ((pb i1.toNatClampNeg).toInt64) ((pa i2.toNatClampNeg).toInt64) ((pb i2.toNatClampNeg).toInt64)).bind (fun (o0_12_c44, o0_13_c44, o0_14_c44, o0_15_c44) => (if o0_12_c44 = 0 then ((a_md_number N mp pa pb o0_14_c44 o0_15_c44).bind (fun r_c67 => (some (r_c67, o0_12_c44, o0_13_c44, o0_14_c44, o0_15_c44)))) else (some ((0 : Int32), o0_12_c44, o0_13_c44, o0_14_c44, o0_15_c44)))))))))
set_option maxHeartbeats 4000000 in
set_option maxRecDepth 100000 in
theorem w_a_md_sumOf (l : Launch) (D : va_G) (cI cJ : ClassId) (qm : Nat) (qa : Nat) (qb : Nat) (qc : Nat) (mt : Int32) (mh : Int32) (ma : Int32) (mc : Int32) (mp : Int32) (mz : Int32) (mw : Int32) (mr : Int32) (ml : Int32) (mf : Int32) (ms : Int32) (m1 : Int64) (m2 : Int64) (m3 : Int64) (m4 : Int64) (mx : Int64) (my : Int64) (pa : Nat → Int32) (pb : Nat → Int32) (po : Nat → Int32) (i1 : Int32) (i2 : Int32) (N : Nat) (r0 : Int32) (r1 : Int32) (r2 : Int32) (r3 : Int64) (r4 : Int64) (hm : a_md_sumOf N mp mz mw m1 m2 mx my pa pb i1 i2 = some (r0, r1, r2, r3, r4)) : Met l y_md_sumOf zs_md_sumOf rm_md_sumOf (zPc [.ref qm, .int i1, .int i2] D [(qm, .inr (4, [.int mt, .int mh, .int ma, .int mc, .long m1, .long m2, .long m3, .long m4, .int mp, .ref qa, .ref qb, .ref qc, .int mz, .int mw, .long mx, .long my, .int mr, .int ml, .int mf, .int ms])), (qa, .inl (cI, 40, .inl pa)), (qb, .inl (cI, 40, .inl pb)), (qc, .inl (cI, 40, .inl po))] [(cI, .int), (cJ, .long)]) (zWr (some (.int r0)) D (zIn [(qm, .inr (4, [.int mt, .int mh, .int ma, .int mc, .long m1, .long m2, .long m3, .long m4, .int mp, .ref qa, .ref qb, .ref qc, .int mz, .int mw, .long mx, .long my, .int mr, .int ml, .int mf, .int ms])), (qa, .inl (cI, 40, .inl pa)), (qb, .inl (cI, 40, .inl pb)), (qc, .inl (cI, 40, .inl po))]) [(qm, .inr (4, [.int mt, .int mh, .int ma, .int mc, .long m1, .long m2, .long m3, .long m4, .int mp, .ref qa, .ref qb, .ref qc, .int r1, .int r2, .long r3, .long r4, .int mr, .int ml, .int mf, .int ms])), (qa, .inl (cI, 40, .inl pa)), (qb, .inl (cI, 40, .inl pb)), (qc, .inl (cI, 40, .inl po))]) 0 0 (zIn [(qm, .inr (4, [.int mt, .int mh, .int ma, .int mc, .long m1, .long m2, .long m3, .long m4, .int mp, .ref qa, .ref qb, .ref qc, .int mz, .int mw, .long mx, .long my, .int mr, .int ml, .int mf, .int ms])), (qa, .inl (cI, 40, .inl pa)), (qb, .inl (cI, 40, .inl pb)), (qc, .inl (cI, 40, .inl po))]) := by
  refine zm (by decide) (Nat.le_of_ble_eq_true rfl) ?_
  intro p e s m args below meth c R Q hR hQ hargs hx hb hml hr hlocks hnm hB hown hP hK hD0 ls hl
  have hown : s.vm.findClass "TorsionDeskModel" = some m.cls := hown
  have hl : lv_has ls 3 [(0, .ref qm), (1, .int i1), (2, .int i2)] := hl
  obtain ⟨A, hA⟩ : ∃ A, A = zIn [(qm, .inr (4, [.int mt, .int mh, .int ma, .int mc, .long m1, .long m2, .long m3, .long m4, .int mp, .ref qa, .ref qb, .ref qc, .int mz, .int mw, .long mx, .long my, .int mr, .int ml, .int mf, .int ms])), (qa, .inl (cI, 40, .inl pa)), (qb, .inl (cI, 40, .inl pb)), (qc, .inl (cI, 40, .inl po))] := ⟨_, rfl⟩
  have hD : va_D A [(qm, .inr (4, [.int mt, .int mh, .int ma, .int mc, .long m1, .long m2, .long m3, .long m4, .int mp, .ref qa, .ref qb, .ref qc, .int mz, .int mw, .long mx, .long my, .int mr, .int ml, .int mf, .int ms])), (qa, .inl (cI, 40, .inl pa)), (qb, .inl (cI, 40, .inl pb)), (qc, .inl (cI, 40, .inl po))] := by rw [hA]; exact zIn_self hD0
  have hS : va_S A s.heap s.heap [] := va_S.rf
  rw [← hA] at hQ
  have main : ∀ (H : Heap) (locs : List Loc), va_P D vwCl [(qm, .inr (4, [.int mt, .int mh, .int ma, .int mc, .long m1, .long m2, .long m3, .long m4, .int mp, .ref qa, .ref qb, .ref qc, .int mz, .int mw, .long mx, .long my, .int mr, .int ml, .int mf, .int ms])), (qa, .inl (cI, 40, .inl pa)), (qb, .inl (cI, 40, .inl pb)), (qc, .inl (cI, 40, .inl po))] H → va_D A [(qm, .inr (4, [.int mt, .int mh, .int ma, .int mc, .long m1, .long m2, .long m3, .long m4, .int mp, .ref qa, .ref qb, .ref qc, .int mz, .int mw, .long mx, .long my, .int mr, .int ml, .int mf, .int ms])), (qa, .inl (cI, 40, .inl pa)), (qb, .inl (cI, 40, .inl pb)), (qc, .inl (cI, 40, .inl po))] → va_S A s.heap H locs → W p l e R s m args below meth c H locs 0 0 Q (F0 m 0 ls []) := by
    intro H locs hP hD hS
    rw [a_md_sumOf] at hm
    refine lv_iload_n (pc := 0) hx hb d_md_sumOf_0 rfl (lv_at hl 2 rfl) ?_
    refine lv_if_ne (pc := 1) (tgt := 6) hx hb d_md_sumOf_1 rfl (fun h1 => ?_) (fun h1 => ?_)
    · rw [if_neg h1] at hm
      refine lv_aload_n (pc := 6) hx hb d_md_sumOf_6 rfl (lv_at hl 0 rfl) ?_
      refine lv_iload_n (pc := 7) hx hb d_md_sumOf_7 rfl (lv_at hl 1 rfl) ?_
      refine lv_if_ne (pc := 8) (tgt := 15) hx hb d_md_sumOf_8 rfl (fun h2 => ?_) (fun h2 => ?_)
      · rw [if_neg h2] at hm
        refine lv_iconst (pc := 15) (v := (0 : Int32)) hx hb d_md_sumOf_15 (by decide) ?_
        refine lv_aload_n (pc := 16) hx hb d_md_sumOf_16 rfl (lv_at hl 0 rfl) ?_
        refine va_get (pc := 17) (D := D) (ci := 4) (v := .ref qa) (C := "TorsionDeskModel") (T := tX4) (N := 20) hx hb hB lX4 hown hK hP 0 rfl rfl 9 (by decide) (hB _ zw_426) (fun _ h9 => h9) rfl d_md_sumOf_17 ?_
        refine lv_iload_n (pc := 20) hx hb d_md_sumOf_20 rfl (lv_at hl 1 rfl) ?_
        by_cases g3 : (i1 < 0 ∨ 40 ≤ i1.toNatClampNeg)
        · rw [if_pos g3] at hm; cases hm
        rw [if_neg g3] at hm
        refine va_iald (pc := 21) hx hb hK hP 1 0 rfl rfl g3 d_md_sumOf_21 ?_
        refine lv_i2l (pc := 22) hx hb d_md_sumOf_22 rfl ?_
        refine lv_aload_n (pc := 23) hx hb d_md_sumOf_23 rfl (lv_at hl 0 rfl) ?_
        refine va_get (pc := 24) (D := D) (ci := 4) (v := .ref qb) (C := "TorsionDeskModel") (T := tX4) (N := 20) hx hb hB lX4 hown hK hP 0 rfl rfl 10 (by decide) (hB _ zw_427) (fun _ h9 => h9) rfl d_md_sumOf_24 ?_
        refine lv_iload_n (pc := 27) hx hb d_md_sumOf_27 rfl (lv_at hl 1 rfl) ?_
        refine va_iald (pc := 28) hx hb hK hP 2 0 rfl rfl g3 d_md_sumOf_28 ?_
        refine lv_i2l (pc := 29) hx hb d_md_sumOf_29 rfl ?_
        refine lv_aload_n (pc := 30) hx hb d_md_sumOf_30 rfl (lv_at hl 0 rfl) ?_
        refine va_get (pc := 31) (D := D) (ci := 4) (v := .ref qa) (C := "TorsionDeskModel") (T := tX4) (N := 20) hx hb hB lX4 hown hK hP 0 rfl rfl 9 (by decide) (hB _ zw_426) (fun _ h9 => h9) rfl d_md_sumOf_31 ?_
        refine lv_iload_n (pc := 34) hx hb d_md_sumOf_34 rfl (lv_at hl 2 rfl) ?_
        by_cases g4 : (i2 < 0 ∨ 40 ≤ i2.toNatClampNeg)
        · rw [if_pos g4] at hm; cases hm
        rw [if_neg g4] at hm
        refine va_iald (pc := 35) hx hb hK hP 1 0 rfl rfl g4 d_md_sumOf_35 ?_
        refine lv_i2l (pc := 36) hx hb d_md_sumOf_36 rfl ?_
        refine lv_aload_n (pc := 37) hx hb d_md_sumOf_37 rfl (lv_at hl 0 rfl) ?_
        refine va_get (pc := 38) (D := D) (ci := 4) (v := .ref qb) (C := "TorsionDeskModel") (T := tX4) (N := 20) hx hb hB lX4 hown hK hP 0 rfl rfl 10 (by decide) (hB _ zw_427) (fun _ h9 => h9) rfl d_md_sumOf_38 ?_
        refine lv_iload_n (pc := 41) hx hb d_md_sumOf_41 rfl (lv_at hl 2 rfl) ?_
        refine va_iald (pc := 42) hx hb hK hP 2 0 rfl rfl g4 d_md_sumOf_42 ?_
        refine lv_i2l (pc := 43) hx hb d_md_sumOf_43 rfl ?_
        obtain ⟨⟨o0_12_c44, o0_13_c44, o0_14_c44, o0_15_c44⟩, c5, hm⟩ := zbind hm
        try dsimp only at hm
        refine zwV (pc := 44) (As := [.int (0 : Int32), .long ((pa i1.toNatClampNeg).toInt64), .long ((pb i1.toNatClampNeg).toInt64), .long ((pa i2.toNatClampNeg).toInt64), .long ((pb i2.toNatClampNeg).toInt64)]) (rest := []) ⟨hx, hb, hml, hown, hB⟩ (w_a_md_add l D cI cJ qm qa qb qc mt mh ma mc mp mz mw mr ml mf ms m1 m2 m3 m4 mx my pa pb po (0 : Int32) ((pa i1.toNatClampNeg).toInt64) ((pb i1.toNatClampNeg).toInt64) ((pa i2.toNatClampNeg).toInt64) ((pb i2.toNatClampNeg).toInt64) o0_12_c44 o0_13_c44 o0_14_c44 o0_15_c44 c5) (cwV 5 hB (zgV zw_503 zw_505 zv_md_add zw_5 zw_506) rfl rfl rfl (by decide +kernel) ⟨by rw [hR]; exact Nat.le_of_ble_eq_true rfl, by rw [hR]; exact Nat.le_of_ble_eq_true rfl⟩) hK hP hD hS [0, 1, 2, 3] (by decide) rfl rfl rfl rfl rfl rfl hl.1 rfl (Nat.le_of_ble_eq_true rfl) d_md_sumOf_44 ⟨Nat.zero_le _, Nat.zero_le _⟩ (fun H locs hP hD hS => ?_)
        have hP : va_P D vwCl [(qm, .inr (4, [.int mt, .int mh, .int ma, .int mc, .long m1, .long m2, .long m3, .long m4, .int mp, .ref qa, .ref qb, .ref qc, .int o0_12_c44, .int o0_13_c44, .long o0_14_c44, .long o0_15_c44, .int mr, .int ml, .int mf, .int ms])), (qa, .inl (cI, 40, .inl pa)), (qb, .inl (cI, 40, .inl pb)), (qc, .inl (cI, 40, .inl po))] H := hP
        have hD : va_D A [(qm, .inr (4, [.int mt, .int mh, .int ma, .int mc, .long m1, .long m2, .long m3, .long m4, .int mp, .ref qa, .ref qb, .ref qc, .int o0_12_c44, .int o0_13_c44, .long o0_14_c44, .long o0_15_c44, .int mr, .int ml, .int mf, .int ms])), (qa, .inl (cI, 40, .inl pa)), (qb, .inl (cI, 40, .inl pb)), (qc, .inl (cI, 40, .inl po))] := hD
        refine lv_aload_n (pc := 47) hx hb d_md_sumOf_47 rfl (lv_at hl 0 rfl) ?_
        refine va_get (pc := 48) (D := D) (ci := 4) (v := .int o0_12_c44) (C := "TorsionDeskModel") (T := tX4) (N := 20) hx hb hB lX4 hown hK hP 0 rfl rfl 12 (by decide) (hB _ zw_429) (fun _ h9 => h9) rfl d_md_sumOf_48 ?_
        refine lv_if_eq (pc := 51) (tgt := 58) hx hb d_md_sumOf_51 rfl (fun h6 => ?_) (fun h6 => ?_)
        · rw [if_pos h6] at hm
          refine lv_aload_n (pc := 58) hx hb d_md_sumOf_58 rfl (lv_at hl 0 rfl) ?_
          refine lv_aload_n (pc := 59) hx hb d_md_sumOf_59 rfl (lv_at hl 0 rfl) ?_
          refine va_get (pc := 60) (D := D) (ci := 4) (v := .long o0_14_c44) (C := "TorsionDeskModel") (T := tX4) (N := 20) hx hb hB lX4 hown hK hP 0 rfl rfl 14 (by decide) (hB _ zw_431) (fun _ h9 => h9) rfl d_md_sumOf_60 ?_
          refine lv_aload_n (pc := 63) hx hb d_md_sumOf_63 rfl (lv_at hl 0 rfl) ?_
          refine va_get (pc := 64) (D := D) (ci := 4) (v := .long o0_15_c44) (C := "TorsionDeskModel") (T := tX4) (N := 20) hx hb hB lX4 hown hK hP 0 rfl rfl 15 (by decide) (hB _ zw_432) (fun _ h9 => h9) rfl d_md_sumOf_64 ?_
          obtain ⟨r_c67, c7, hm⟩ := zbind hm
          try dsimp only at hm
          refine zcV (pc := 67) (As := [.long o0_14_c44, .long o0_15_c44]) (rest := []) ⟨hx, hb, hml, hown, hB⟩ (w_a_md_number l D cI cJ qm qa qb qc mt mh ma mc mp o0_12_c44 o0_13_c44 mr ml mf ms m1 m2 m3 m4 o0_14_c44 o0_15_c44 pa pb po o0_14_c44 o0_15_c44 N r_c67 c7) (cwV 2 hB (zgV zw_527 zw_529 zv_md_number zw_5 zw_530) rfl rfl rfl (by decide +kernel) ⟨by rw [hR]; exact Nat.le_of_ble_eq_true rfl, by rw [hR]; exact Nat.le_of_ble_eq_true rfl⟩) hK (hP.sub (ws' := [(qm, .inr (4, [.int mt, .int mh, .int ma, .int mc, .long m1, .long m2, .long m3, .long m4, .int mp, .ref qa, .ref qb, .ref qc, .int o0_12_c44, .int o0_13_c44, .long o0_14_c44, .long o0_15_c44, .int mr, .int ml, .int mf, .int ms])), (qa, .inl (cI, 40, .inl pa)), (qb, .inl (cI, 40, .inl pb)), (qc, .inl (cI, 40, .inl po))]) [0, 1, 2, 3] rfl) (hD.sub (ws' := [(qm, .inr (4, [.int mt, .int mh, .int ma, .int mc, .long m1, .long m2, .long m3, .long m4, .int mp, .ref qa, .ref qb, .ref qc, .int o0_12_c44, .int o0_13_c44, .long o0_14_c44, .long o0_15_c44, .int mr, .int ml, .int mf, .int ms])), (qa, .inl (cI, 40, .inl pa)), (qb, .inl (cI, 40, .inl pb)), (qc, .inl (cI, 40, .inl po))]) [0, 1, 2, 3] (by decide) rfl) rfl rfl rfl rfl hl.1 rfl (Nat.le_of_ble_eq_true rfl) d_md_sumOf_67 ⟨Nat.zero_le _, Nat.zero_le _⟩ ?_
          cases hm
          rw [hQ]
          exact W.iret (pc := 70) hx hb hr (fun t ht _ => ⟨rfl, by rw [ht]; exact hP, hS.F ht⟩) hS.2.2 d_md_sumOf_70
        rw [if_neg h6] at hm
        refine lv_iconst (pc := 54) (v := (0 : Int32)) hx hb d_md_sumOf_54 (by decide) ?_
        refine lv_goto (pc := 55) (tgt := 70) hx hb d_md_sumOf_55 rfl ?_
        cases hm
        rw [hQ]
        exact W.iret (pc := 70) hx hb hr (fun t ht _ => ⟨rfl, by rw [ht]; exact hP, hS.F ht⟩) hS.2.2 d_md_sumOf_70
      rw [if_pos h2] at hm
      refine lv_iconst (pc := 11) (v := (1 : Int32)) hx hb d_md_sumOf_11 (by decide) ?_
      refine lv_goto (pc := 12) (tgt := 16) hx hb d_md_sumOf_12 rfl ?_
      refine lv_aload_n (pc := 16) hx hb d_md_sumOf_16 rfl (lv_at hl 0 rfl) ?_
      refine va_get (pc := 17) (D := D) (ci := 4) (v := .ref qa) (C := "TorsionDeskModel") (T := tX4) (N := 20) hx hb hB lX4 hown hK hP 0 rfl rfl 9 (by decide) (hB _ zw_426) (fun _ h9 => h9) rfl d_md_sumOf_17 ?_
      refine lv_iload_n (pc := 20) hx hb d_md_sumOf_20 rfl (lv_at hl 1 rfl) ?_
      by_cases g8 : (i1 < 0 ∨ 40 ≤ i1.toNatClampNeg)
      · rw [if_pos g8] at hm; cases hm
      rw [if_neg g8] at hm
      refine va_iald (pc := 21) hx hb hK hP 1 0 rfl rfl g8 d_md_sumOf_21 ?_
      refine lv_i2l (pc := 22) hx hb d_md_sumOf_22 rfl ?_
      refine lv_aload_n (pc := 23) hx hb d_md_sumOf_23 rfl (lv_at hl 0 rfl) ?_
      refine va_get (pc := 24) (D := D) (ci := 4) (v := .ref qb) (C := "TorsionDeskModel") (T := tX4) (N := 20) hx hb hB lX4 hown hK hP 0 rfl rfl 10 (by decide) (hB _ zw_427) (fun _ h9 => h9) rfl d_md_sumOf_24 ?_
      refine lv_iload_n (pc := 27) hx hb d_md_sumOf_27 rfl (lv_at hl 1 rfl) ?_
      refine va_iald (pc := 28) hx hb hK hP 2 0 rfl rfl g8 d_md_sumOf_28 ?_
      refine lv_i2l (pc := 29) hx hb d_md_sumOf_29 rfl ?_
      refine lv_aload_n (pc := 30) hx hb d_md_sumOf_30 rfl (lv_at hl 0 rfl) ?_
      refine va_get (pc := 31) (D := D) (ci := 4) (v := .ref qa) (C := "TorsionDeskModel") (T := tX4) (N := 20) hx hb hB lX4 hown hK hP 0 rfl rfl 9 (by decide) (hB _ zw_426) (fun _ h9 => h9) rfl d_md_sumOf_31 ?_
      refine lv_iload_n (pc := 34) hx hb d_md_sumOf_34 rfl (lv_at hl 2 rfl) ?_
      by_cases g9 : (i2 < 0 ∨ 40 ≤ i2.toNatClampNeg)
      · rw [if_pos g9] at hm; cases hm
      rw [if_neg g9] at hm
      refine va_iald (pc := 35) hx hb hK hP 1 0 rfl rfl g9 d_md_sumOf_35 ?_
      refine lv_i2l (pc := 36) hx hb d_md_sumOf_36 rfl ?_
      refine lv_aload_n (pc := 37) hx hb d_md_sumOf_37 rfl (lv_at hl 0 rfl) ?_
      refine va_get (pc := 38) (D := D) (ci := 4) (v := .ref qb) (C := "TorsionDeskModel") (T := tX4) (N := 20) hx hb hB lX4 hown hK hP 0 rfl rfl 10 (by decide) (hB _ zw_427) (fun _ h9 => h9) rfl d_md_sumOf_38 ?_
      refine lv_iload_n (pc := 41) hx hb d_md_sumOf_41 rfl (lv_at hl 2 rfl) ?_
      refine va_iald (pc := 42) hx hb hK hP 2 0 rfl rfl g9 d_md_sumOf_42 ?_
      refine lv_i2l (pc := 43) hx hb d_md_sumOf_43 rfl ?_
      obtain ⟨⟨o0_12_c44, o0_13_c44, o0_14_c44, o0_15_c44⟩, c10, hm⟩ := zbind hm
      try dsimp only at hm
      refine zwV (pc := 44) (As := [.int (1 : Int32), .long ((pa i1.toNatClampNeg).toInt64), .long ((pb i1.toNatClampNeg).toInt64), .long ((pa i2.toNatClampNeg).toInt64), .long ((pb i2.toNatClampNeg).toInt64)]) (rest := []) ⟨hx, hb, hml, hown, hB⟩ (w_a_md_add l D cI cJ qm qa qb qc mt mh ma mc mp mz mw mr ml mf ms m1 m2 m3 m4 mx my pa pb po (1 : Int32) ((pa i1.toNatClampNeg).toInt64) ((pb i1.toNatClampNeg).toInt64) ((pa i2.toNatClampNeg).toInt64) ((pb i2.toNatClampNeg).toInt64) o0_12_c44 o0_13_c44 o0_14_c44 o0_15_c44 c10) (cwV 5 hB (zgV zw_503 zw_505 zv_md_add zw_5 zw_506) rfl rfl rfl (by decide +kernel) ⟨by rw [hR]; exact Nat.le_of_ble_eq_true rfl, by rw [hR]; exact Nat.le_of_ble_eq_true rfl⟩) hK hP hD hS [0, 1, 2, 3] (by decide) rfl rfl rfl rfl rfl rfl hl.1 rfl (Nat.le_of_ble_eq_true rfl) d_md_sumOf_44 ⟨Nat.zero_le _, Nat.zero_le _⟩ (fun H locs hP hD hS => ?_)
      have hP : va_P D vwCl [(qm, .inr (4, [.int mt, .int mh, .int ma, .int mc, .long m1, .long m2, .long m3, .long m4, .int mp, .ref qa, .ref qb, .ref qc, .int o0_12_c44, .int o0_13_c44, .long o0_14_c44, .long o0_15_c44, .int mr, .int ml, .int mf, .int ms])), (qa, .inl (cI, 40, .inl pa)), (qb, .inl (cI, 40, .inl pb)), (qc, .inl (cI, 40, .inl po))] H := hP
      have hD : va_D A [(qm, .inr (4, [.int mt, .int mh, .int ma, .int mc, .long m1, .long m2, .long m3, .long m4, .int mp, .ref qa, .ref qb, .ref qc, .int o0_12_c44, .int o0_13_c44, .long o0_14_c44, .long o0_15_c44, .int mr, .int ml, .int mf, .int ms])), (qa, .inl (cI, 40, .inl pa)), (qb, .inl (cI, 40, .inl pb)), (qc, .inl (cI, 40, .inl po))] := hD
      refine lv_aload_n (pc := 47) hx hb d_md_sumOf_47 rfl (lv_at hl 0 rfl) ?_
      refine va_get (pc := 48) (D := D) (ci := 4) (v := .int o0_12_c44) (C := "TorsionDeskModel") (T := tX4) (N := 20) hx hb hB lX4 hown hK hP 0 rfl rfl 12 (by decide) (hB _ zw_429) (fun _ h9 => h9) rfl d_md_sumOf_48 ?_
      refine lv_if_eq (pc := 51) (tgt := 58) hx hb d_md_sumOf_51 rfl (fun h11 => ?_) (fun h11 => ?_)
      · rw [if_pos h11] at hm
        refine lv_aload_n (pc := 58) hx hb d_md_sumOf_58 rfl (lv_at hl 0 rfl) ?_
        refine lv_aload_n (pc := 59) hx hb d_md_sumOf_59 rfl (lv_at hl 0 rfl) ?_
        refine va_get (pc := 60) (D := D) (ci := 4) (v := .long o0_14_c44) (C := "TorsionDeskModel") (T := tX4) (N := 20) hx hb hB lX4 hown hK hP 0 rfl rfl 14 (by decide) (hB _ zw_431) (fun _ h9 => h9) rfl d_md_sumOf_60 ?_
        refine lv_aload_n (pc := 63) hx hb d_md_sumOf_63 rfl (lv_at hl 0 rfl) ?_
        refine va_get (pc := 64) (D := D) (ci := 4) (v := .long o0_15_c44) (C := "TorsionDeskModel") (T := tX4) (N := 20) hx hb hB lX4 hown hK hP 0 rfl rfl 15 (by decide) (hB _ zw_432) (fun _ h9 => h9) rfl d_md_sumOf_64 ?_
        obtain ⟨r_c67, c12, hm⟩ := zbind hm
        try dsimp only at hm
        refine zcV (pc := 67) (As := [.long o0_14_c44, .long o0_15_c44]) (rest := []) ⟨hx, hb, hml, hown, hB⟩ (w_a_md_number l D cI cJ qm qa qb qc mt mh ma mc mp o0_12_c44 o0_13_c44 mr ml mf ms m1 m2 m3 m4 o0_14_c44 o0_15_c44 pa pb po o0_14_c44 o0_15_c44 N r_c67 c12) (cwV 2 hB (zgV zw_527 zw_529 zv_md_number zw_5 zw_530) rfl rfl rfl (by decide +kernel) ⟨by rw [hR]; exact Nat.le_of_ble_eq_true rfl, by rw [hR]; exact Nat.le_of_ble_eq_true rfl⟩) hK (hP.sub (ws' := [(qm, .inr (4, [.int mt, .int mh, .int ma, .int mc, .long m1, .long m2, .long m3, .long m4, .int mp, .ref qa, .ref qb, .ref qc, .int o0_12_c44, .int o0_13_c44, .long o0_14_c44, .long o0_15_c44, .int mr, .int ml, .int mf, .int ms])), (qa, .inl (cI, 40, .inl pa)), (qb, .inl (cI, 40, .inl pb)), (qc, .inl (cI, 40, .inl po))]) [0, 1, 2, 3] rfl) (hD.sub (ws' := [(qm, .inr (4, [.int mt, .int mh, .int ma, .int mc, .long m1, .long m2, .long m3, .long m4, .int mp, .ref qa, .ref qb, .ref qc, .int o0_12_c44, .int o0_13_c44, .long o0_14_c44, .long o0_15_c44, .int mr, .int ml, .int mf, .int ms])), (qa, .inl (cI, 40, .inl pa)), (qb, .inl (cI, 40, .inl pb)), (qc, .inl (cI, 40, .inl po))]) [0, 1, 2, 3] (by decide) rfl) rfl rfl rfl rfl hl.1 rfl (Nat.le_of_ble_eq_true rfl) d_md_sumOf_67 ⟨Nat.zero_le _, Nat.zero_le _⟩ ?_
        cases hm
        rw [hQ]
        exact W.iret (pc := 70) hx hb hr (fun t ht _ => ⟨rfl, by rw [ht]; exact hP, hS.F ht⟩) hS.2.2 d_md_sumOf_70
      rw [if_neg h11] at hm
      refine lv_iconst (pc := 54) (v := (0 : Int32)) hx hb d_md_sumOf_54 (by decide) ?_
      refine lv_goto (pc := 55) (tgt := 70) hx hb d_md_sumOf_55 rfl ?_
      cases hm
      rw [hQ]
      exact W.iret (pc := 70) hx hb hr (fun t ht _ => ⟨rfl, by rw [ht]; exact hP, hS.F ht⟩) hS.2.2 d_md_sumOf_70
    rw [if_pos h1] at hm
    refine lv_iload_n (pc := 4) hx hb d_md_sumOf_4 rfl (lv_at hl 1 rfl) ?_
    cases hm
    rw [hQ]
    exact W.iret (pc := 5) hx hb hr (fun t ht _ => ⟨rfl, by rw [ht]; exact hP, hS.F ht⟩) hS.2.2 d_md_sumOf_5
  exact main s.heap [] hP hD hS
abbrev rm_md_multiple : Room := { frames := 2, cells := 0, slots := 0, locals := 60 }
def a_md_multiple_L5 (mp : Int32) (m1 : Int64) (m2 : Int64) (pa : Nat → Int32) (pb : Nat → Int32) (i1 : Int32) (i2 : Int32) : Nat → Int32 → Int32 → Int64 → Int64 → Int32 → Int32 → Option (Int32 × Int32 × Int32 × Int64 × Int64)
  | 0, _, _, _, _, _, _ => none
  | n + 1, f0_12_5, f0_13_5, f0_14_5, f0_15_5, x3_5, x4_5 => (if i1 ≤ x4_5 then (some (x3_5, f0_12_5, f0_13_5, f0_14_5, f0_15_5)) else ((a_md_sumOf n mp f0_12_5 f0_13_5 m1 m2 f0_14_5 f0_15_5 pa pb x3_5 i2).bind (fun (r_c14, o0_12_c14, o0_13_c14, o0_14_c14, o0_15_c14) => a_md_multiple_L5 mp m1 m2 pa pb i1 i2 n o0_12_c14 o0_13_c14 o0_14_c14 o0_15_c14 r_c14 (x4_5 + (1 : Int32)))))
def a_md_multiple (N : Nat) (mp : Int32) (mz : Int32) (mw : Int32) (m1 : Int64) (m2 : Int64) (mx : Int64) (my : Int64) (pa : Nat → Int32) (pb : Nat → Int32) (i1 : Int32) (i2 : Int32) : Option (Int32 × Int32 × Int32 × Int64 × Int64) := a_md_multiple_L5 mp m1 m2 pa pb i1 i2 N mz mw mx my (0 : Int32) (0 : Int32)
set_option maxHeartbeats 4000000 in
set_option maxRecDepth 100000 in
theorem w_a_md_multiple (l : Launch) (D : va_G) (cI cJ : ClassId) (qm : Nat) (qa : Nat) (qb : Nat) (qc : Nat) (mt : Int32) (mh : Int32) (ma : Int32) (mc : Int32) (mp : Int32) (mz : Int32) (mw : Int32) (mr : Int32) (ml : Int32) (mf : Int32) (ms : Int32) (m1 : Int64) (m2 : Int64) (m3 : Int64) (m4 : Int64) (mx : Int64) (my : Int64) (pa : Nat → Int32) (pb : Nat → Int32) (po : Nat → Int32) (i1 : Int32) (i2 : Int32) (N : Nat) (r0 : Int32) (r1 : Int32) (r2 : Int32) (r3 : Int64) (r4 : Int64) (hm : a_md_multiple N mp mz mw m1 m2 mx my pa pb i1 i2 = some (r0, r1, r2, r3, r4)) : Met l y_md_multiple zs_md_multiple rm_md_multiple (zPc [.ref qm, .int i1, .int i2] D [(qm, .inr (4, [.int mt, .int mh, .int ma, .int mc, .long m1, .long m2, .long m3, .long m4, .int mp, .ref qa, .ref qb, .ref qc, .int mz, .int mw, .long mx, .long my, .int mr, .int ml, .int mf, .int ms])), (qa, .inl (cI, 40, .inl pa)), (qb, .inl (cI, 40, .inl pb)), (qc, .inl (cI, 40, .inl po))] [(cI, .int), (cJ, .long)]) (zWr (some (.int r0)) D (zIn [(qm, .inr (4, [.int mt, .int mh, .int ma, .int mc, .long m1, .long m2, .long m3, .long m4, .int mp, .ref qa, .ref qb, .ref qc, .int mz, .int mw, .long mx, .long my, .int mr, .int ml, .int mf, .int ms])), (qa, .inl (cI, 40, .inl pa)), (qb, .inl (cI, 40, .inl pb)), (qc, .inl (cI, 40, .inl po))]) [(qm, .inr (4, [.int mt, .int mh, .int ma, .int mc, .long m1, .long m2, .long m3, .long m4, .int mp, .ref qa, .ref qb, .ref qc, .int r1, .int r2, .long r3, .long r4, .int mr, .int ml, .int mf, .int ms])), (qa, .inl (cI, 40, .inl pa)), (qb, .inl (cI, 40, .inl pb)), (qc, .inl (cI, 40, .inl po))]) 0 0 (zIn [(qm, .inr (4, [.int mt, .int mh, .int ma, .int mc, .long m1, .long m2, .long m3, .long m4, .int mp, .ref qa, .ref qb, .ref qc, .int mz, .int mw, .long mx, .long my, .int mr, .int ml, .int mf, .int ms])), (qa, .inl (cI, 40, .inl pa)), (qb, .inl (cI, 40, .inl pb)), (qc, .inl (cI, 40, .inl po))]) := by
  refine zm (by decide) (Nat.le_of_ble_eq_true rfl) ?_
  intro p e s m args below meth c R Q hR hQ hargs hx hb hml hr hlocks hnm hB hown hP hK hD0 ls hl
  have hown : s.vm.findClass "TorsionDeskModel" = some m.cls := hown
  have hl : lv_has ls 5 [(0, .ref qm), (1, .int i1), (2, .int i2)] := hl
  obtain ⟨A, hA⟩ : ∃ A, A = zIn [(qm, .inr (4, [.int mt, .int mh, .int ma, .int mc, .long m1, .long m2, .long m3, .long m4, .int mp, .ref qa, .ref qb, .ref qc, .int mz, .int mw, .long mx, .long my, .int mr, .int ml, .int mf, .int ms])), (qa, .inl (cI, 40, .inl pa)), (qb, .inl (cI, 40, .inl pb)), (qc, .inl (cI, 40, .inl po))] := ⟨_, rfl⟩
  have hD : va_D A [(qm, .inr (4, [.int mt, .int mh, .int ma, .int mc, .long m1, .long m2, .long m3, .long m4, .int mp, .ref qa, .ref qb, .ref qc, .int mz, .int mw, .long mx, .long my, .int mr, .int ml, .int mf, .int ms])), (qa, .inl (cI, 40, .inl pa)), (qb, .inl (cI, 40, .inl pb)), (qc, .inl (cI, 40, .inl po))] := by rw [hA]; exact zIn_self hD0
  have hS : va_S A s.heap s.heap [] := va_S.rf
  rw [← hA] at hQ
  have k5 : ∀ (n : Nat) (f0_12_5 : Int32) (f0_13_5 : Int32) (f0_14_5 : Int64) (f0_15_5 : Int64) (x3_5 : Int32) (x4_5 : Int32) (H : Heap) (locs : List Loc) (ls : Array Slot), lv_has ls 5 [(0, .ref qm), (1, .int i1), (2, .int i2), (3, .int x3_5), (4, .int x4_5)] → va_P D vwCl [(qm, .inr (4, [.int mt, .int mh, .int ma, .int mc, .long m1, .long m2, .long m3, .long m4, .int mp, .ref qa, .ref qb, .ref qc, .int f0_12_5, .int f0_13_5, .long f0_14_5, .long f0_15_5, .int mr, .int ml, .int mf, .int ms])), (qa, .inl (cI, 40, .inl pa)), (qb, .inl (cI, 40, .inl pb)), (qc, .inl (cI, 40, .inl po))] H → va_D A [(qm, .inr (4, [.int mt, .int mh, .int ma, .int mc, .long m1, .long m2, .long m3, .long m4, .int mp, .ref qa, .ref qb, .ref qc, .int f0_12_5, .int f0_13_5, .long f0_14_5, .long f0_15_5, .int mr, .int ml, .int mf, .int ms])), (qa, .inl (cI, 40, .inl pa)), (qb, .inl (cI, 40, .inl pb)), (qc, .inl (cI, 40, .inl po))] → va_S A s.heap H locs → a_md_multiple_L5 mp m1 m2 pa pb i1 i2 n f0_12_5 f0_13_5 f0_14_5 f0_15_5 x3_5 x4_5 = some (r0, r1, r2, r3, r4) → W p l e R s m args below meth c H locs 0 0 Q (F0 m 5 ls []) := by
    intro n
    induction n with
    | zero => intro f0_12_5 f0_13_5 f0_14_5 f0_15_5 x3_5 x4_5  H locs ls hl hP hD hS hm; rw [a_md_multiple_L5] at hm; cases hm
    | succ n ih =>
      intro f0_12_5 f0_13_5 f0_14_5 f0_15_5 x3_5 x4_5  H locs ls hl hP hD hS hm
      rw [a_md_multiple_L5] at hm
      refine lv_iload (pc := 5) hx hb d_md_multiple_5 (lv_at hl 4 rfl) ?_
      refine lv_iload_n (pc := 7) hx hb d_md_multiple_7 rfl (lv_at hl 1 rfl) ?_
      refine lv_icmp_ge (pc := 8) (tgt := 24) hx hb d_md_multiple_8 rfl (fun h1 => ?_) (fun h1 => ?_)
      · rw [if_pos h1] at hm
        refine lv_iload_n (pc := 24) hx hb d_md_multiple_24 rfl (lv_at hl 3 rfl) ?_
        cases hm
        rw [hQ]
        exact W.iret (pc := 25) hx hb hr (fun t ht _ => ⟨rfl, by rw [ht]; exact hP, hS.F ht⟩) hS.2.2 d_md_multiple_25
      rw [if_neg h1] at hm
      refine lv_aload_n (pc := 11) hx hb d_md_multiple_11 rfl (lv_at hl 0 rfl) ?_
      refine lv_iload_n (pc := 12) hx hb d_md_multiple_12 rfl (lv_at hl 3 rfl) ?_
      refine lv_iload_n (pc := 13) hx hb d_md_multiple_13 rfl (lv_at hl 2 rfl) ?_
      obtain ⟨⟨r_c14, o0_12_c14, o0_13_c14, o0_14_c14, o0_15_c14⟩, c2, hm⟩ := zbind hm
      try dsimp only at hm
      refine zwV (pc := 14) (As := [.int x3_5, .int i2]) (rest := []) ⟨hx, hb, hml, hown, hB⟩ (w_a_md_sumOf l D cI cJ qm qa qb qc mt mh ma mc mp f0_12_5 f0_13_5 mr ml mf ms m1 m2 m3 m4 f0_14_5 f0_15_5 pa pb po x3_5 i2 n r_c14 o0_12_c14 o0_13_c14 o0_14_c14 o0_15_c14 c2) (cwV 2 hB (zgV zw_523 zw_525 zv_md_sumOf zw_5 zw_526) rfl rfl rfl (by decide +kernel) ⟨by rw [hR]; exact Nat.le_of_ble_eq_true rfl, by rw [hR]; exact Nat.le_of_ble_eq_true rfl⟩) hK hP hD hS [0, 1, 2, 3] (by decide) rfl rfl rfl rfl rfl rfl hl.1 rfl (Nat.le_of_ble_eq_true rfl) d_md_multiple_14 ⟨Nat.zero_le _, Nat.zero_le _⟩ (fun H locs hP hD hS => ?_)
      have hP : va_P D vwCl [(qm, .inr (4, [.int mt, .int mh, .int ma, .int mc, .long m1, .long m2, .long m3, .long m4, .int mp, .ref qa, .ref qb, .ref qc, .int o0_12_c14, .int o0_13_c14, .long o0_14_c14, .long o0_15_c14, .int mr, .int ml, .int mf, .int ms])), (qa, .inl (cI, 40, .inl pa)), (qb, .inl (cI, 40, .inl pb)), (qc, .inl (cI, 40, .inl po))] H := hP
      have hD : va_D A [(qm, .inr (4, [.int mt, .int mh, .int ma, .int mc, .long m1, .long m2, .long m3, .long m4, .int mp, .ref qa, .ref qb, .ref qc, .int o0_12_c14, .int o0_13_c14, .long o0_14_c14, .long o0_15_c14, .int mr, .int ml, .int mf, .int ms])), (qa, .inl (cI, 40, .inl pa)), (qb, .inl (cI, 40, .inl pb)), (qc, .inl (cI, 40, .inl po))] := hD
      refine lv_istore_n (pc := 17) (lv' := [(3, .int r_c14), (0, .ref qm), (1, .int i1), (2, .int i2), (4, .int x4_5)]) hx hb d_md_multiple_17 rfl hl (Nat.le_of_ble_eq_true rfl) rfl (fun ls hl => ?_)
      refine lv_iinc (pc := 18) (k := 4) (v := x4_5 + (1 : Int32)) (lv' := [(4, .int (x4_5 + (1 : Int32))), (3, .int r_c14), (0, .ref qm), (1, .int i1), (2, .int i2)]) hx hb d_md_multiple_18 hl rfl (congrArg (x4_5 + ·) (by decide)) (Nat.le_of_ble_eq_true rfl) rfl (fun ls hl => ?_)
      refine lv_goto (pc := 21) (tgt := 5) hx hb d_md_multiple_21 rfl ?_
      exact ih o0_12_c14 o0_13_c14 o0_14_c14 o0_15_c14 r_c14 (x4_5 + (1 : Int32)) H locs ls (lv_sub hl [2, 3, 4, 1, 0] rfl) hP hD hS hm
  have main : ∀ (H : Heap) (locs : List Loc), va_P D vwCl [(qm, .inr (4, [.int mt, .int mh, .int ma, .int mc, .long m1, .long m2, .long m3, .long m4, .int mp, .ref qa, .ref qb, .ref qc, .int mz, .int mw, .long mx, .long my, .int mr, .int ml, .int mf, .int ms])), (qa, .inl (cI, 40, .inl pa)), (qb, .inl (cI, 40, .inl pb)), (qc, .inl (cI, 40, .inl po))] H → va_D A [(qm, .inr (4, [.int mt, .int mh, .int ma, .int mc, .long m1, .long m2, .long m3, .long m4, .int mp, .ref qa, .ref qb, .ref qc, .int mz, .int mw, .long mx, .long my, .int mr, .int ml, .int mf, .int ms])), (qa, .inl (cI, 40, .inl pa)), (qb, .inl (cI, 40, .inl pb)), (qc, .inl (cI, 40, .inl po))] → va_S A s.heap H locs → W p l e R s m args below meth c H locs 0 0 Q (F0 m 0 ls []) := by
    intro H locs hP hD hS
    rw [a_md_multiple] at hm
    refine lv_iconst (pc := 0) (v := (0 : Int32)) hx hb d_md_multiple_0 (by decide) ?_
    refine lv_istore_n (pc := 1) (lv' := [(3, .int (0 : Int32)), (0, .ref qm), (1, .int i1), (2, .int i2)]) hx hb d_md_multiple_1 rfl hl (Nat.le_of_ble_eq_true rfl) rfl (fun ls hl => ?_)
    refine lv_iconst (pc := 2) (v := (0 : Int32)) hx hb d_md_multiple_2 (by decide) ?_
    refine lv_istore (pc := 3) (lv' := [(4, .int (0 : Int32)), (3, .int (0 : Int32)), (0, .ref qm), (1, .int i1), (2, .int i2)]) hx hb d_md_multiple_3 hl (Nat.le_of_ble_eq_true rfl) rfl (fun ls hl => ?_)
    exact k5 N mz mw mx my (0 : Int32) (0 : Int32) H locs ls (lv_sub hl [2, 3, 4, 1, 0] rfl) hP hD hS hm
  exact main s.heap [] hP hD hS
abbrev rm_md_makes : Room := { frames := 2, cells := 0, slots := 0, locals := 60 }
def a_md_makes_L24 (mp : Int32) (ml : Int32) (m1 : Int64) (m2 : Int64) (pa : Nat → Int32) (pb : Nat → Int32) (i2 : Int32) : Nat → Int32 → Int32 → Int64 → Int64 → Int64 → Int32 → Int32 → Int32 → Int32 → Option (Int32 × Int32 × Int64 × Int64 × Int64 × Int32 × Int32)
  | 0, _, _, _, _, _, _, _, _, _ => none
  | n + 1, f0_12_24, f0_13_24, f0_14_24, f0_15_24, x3_24, x7_24, x8_24, x5_24, x6_24 => (if ml ≤ x8_24 then (some (f0_12_24, f0_13_24, f0_14_24, f0_15_24, x3_24, x5_24, x6_24)) else ((a_md_sumOf n mp f0_12_24 f0_13_24 m1 m2 f0_14_24 f0_15_24 pa pb x7_24 i2).bind (fun (r_c44, o0_12_c44, o0_13_c44, o0_14_c44, o0_15_c44) => a_md_makes_L24 mp ml m1 m2 pa pb i2 n o0_12_c44 o0_13_c44 o0_14_c44 o0_15_c44 (x3_24 ||| ((1 : Int64) <<< (x7_24.toInt64 &&& 63))) r_c44 (x8_24 + (1 : Int32)) x5_24 x6_24)))
def a_md_makes_L8 (mp : Int32) (mr : Int32) (ml : Int32) (m1 : Int64) (m2 : Int64) (pa : Nat → Int32) (pb : Nat → Int32) (i1 : Int32) (i2 : Int32) : Nat → Int32 → Int32 → Int64 → Int64 → Int32 → Int32 → Int64 → Option (Int32 × Int32 × Int32 × Int64 × Int64)
  | 0, _, _, _, _, _, _, _ => none
  | n + 1, f0_12_8, f0_13_8, f0_14_8, f0_15_8, x5_8, x6_8, x3_8 => (if mr ≤ x6_8 then (if x3_8 = (((1 : Int64) <<< (mp.toInt64 &&& 63)) - (1 : Int64)) then (some ((1 : Int32), f0_12_8, f0_13_8, f0_14_8, f0_15_8)) else (some ((0 : Int32), f0_12_8, f0_13_8, f0_14_8, f0_15_8))) else ((a_md_makes_L24 mp ml m1 m2 pa pb i2 n f0_12_8 f0_13_8 f0_14_8 f0_15_8 x3_8 x5_8 (0 : Int32) x5_8 x6_8).bind (fun (f0_12_55e, f0_13_55e, f0_14_55e, f0_15_55e, x3_55e, x5_55e, x6_55e) => ((a_md_sumOf n mp f0_12_55e f0_13_55e m1 m2 f0_14_55e f0_15_55e pa pb x5_55e i1).bind (fun (r_c59, o0_12_c59, o0_13_c59, o0_14_c59, o0_15_c59) => a_md_makes_L8 mp mr ml m1 m2 pa pb i1 i2 n o0_12_c59 o0_13_c59 o0_14_c59 o0_15_c59 r_c59 (x6_55e + (1 : Int32)) x3_55e)))))
def a_md_makes (N : Nat) (mp : Int32) (mz : Int32) (mw : Int32) (mr : Int32) (ml : Int32) (m1 : Int64) (m2 : Int64) (mx : Int64) (my : Int64) (pa : Nat → Int32) (pb : Nat → Int32) (i1 : Int32) (i2 : Int32) : Option (Int32 × Int32 × Int32 × Int64 × Int64) := a_md_makes_L8 mp mr ml m1 m2 pa pb i1 i2 N mz mw mx my (0 : Int32) (0 : Int32) (0 : Int64)
set_option maxHeartbeats 4000000 in
set_option maxRecDepth 100000 in
theorem w_a_md_makes (l : Launch) (D : va_G) (cI cJ : ClassId) (qm : Nat) (qa : Nat) (qb : Nat) (qc : Nat) (mt : Int32) (mh : Int32) (ma : Int32) (mc : Int32) (mp : Int32) (mz : Int32) (mw : Int32) (mr : Int32) (ml : Int32) (mf : Int32) (ms : Int32) (m1 : Int64) (m2 : Int64) (m3 : Int64) (m4 : Int64) (mx : Int64) (my : Int64) (pa : Nat → Int32) (pb : Nat → Int32) (po : Nat → Int32) (i1 : Int32) (i2 : Int32) (N : Nat) (r0 : Int32) (r1 : Int32) (r2 : Int32) (r3 : Int64) (r4 : Int64) (hm : a_md_makes N mp mz mw mr ml m1 m2 mx my pa pb i1 i2 = some (r0, r1, r2, r3, r4)) : Met l y_md_makes zs_md_makes rm_md_makes (zPc [.ref qm, .int i1, .int i2] D [(qm, .inr (4, [.int mt, .int mh, .int ma, .int mc, .long m1, .long m2, .long m3, .long m4, .int mp, .ref qa, .ref qb, .ref qc, .int mz, .int mw, .long mx, .long my, .int mr, .int ml, .int mf, .int ms])), (qa, .inl (cI, 40, .inl pa)), (qb, .inl (cI, 40, .inl pb)), (qc, .inl (cI, 40, .inl po))] [(cI, .int), (cJ, .long)]) (zWr (some (.int r0)) D (zIn [(qm, .inr (4, [.int mt, .int mh, .int ma, .int mc, .long m1, .long m2, .long m3, .long m4, .int mp, .ref qa, .ref qb, .ref qc, .int mz, .int mw, .long mx, .long my, .int mr, .int ml, .int mf, .int ms])), (qa, .inl (cI, 40, .inl pa)), (qb, .inl (cI, 40, .inl pb)), (qc, .inl (cI, 40, .inl po))]) [(qm, .inr (4, [.int mt, .int mh, .int ma, .int mc, .long m1, .long m2, .long m3, .long m4, .int mp, .ref qa, .ref qb, .ref qc, .int r1, .int r2, .long r3, .long r4, .int mr, .int ml, .int mf, .int ms])), (qa, .inl (cI, 40, .inl pa)), (qb, .inl (cI, 40, .inl pb)), (qc, .inl (cI, 40, .inl po))]) 0 0 (zIn [(qm, .inr (4, [.int mt, .int mh, .int ma, .int mc, .long m1, .long m2, .long m3, .long m4, .int mp, .ref qa, .ref qb, .ref qc, .int mz, .int mw, .long mx, .long my, .int mr, .int ml, .int mf, .int ms])), (qa, .inl (cI, 40, .inl pa)), (qb, .inl (cI, 40, .inl pb)), (qc, .inl (cI, 40, .inl po))]) := by
  refine zm (by decide) (Nat.le_of_ble_eq_true rfl) ?_
  intro p e s m args below meth c R Q hR hQ hargs hx hb hml hr hlocks hnm hB hown hP hK hD0 ls hl
  have hown : s.vm.findClass "TorsionDeskModel" = some m.cls := hown
  have hl : lv_has ls 9 [(0, .ref qm), (1, .int i1), (2, .int i2)] := hl
  obtain ⟨A, hA⟩ : ∃ A, A = zIn [(qm, .inr (4, [.int mt, .int mh, .int ma, .int mc, .long m1, .long m2, .long m3, .long m4, .int mp, .ref qa, .ref qb, .ref qc, .int mz, .int mw, .long mx, .long my, .int mr, .int ml, .int mf, .int ms])), (qa, .inl (cI, 40, .inl pa)), (qb, .inl (cI, 40, .inl pb)), (qc, .inl (cI, 40, .inl po))] := ⟨_, rfl⟩
  have hD : va_D A [(qm, .inr (4, [.int mt, .int mh, .int ma, .int mc, .long m1, .long m2, .long m3, .long m4, .int mp, .ref qa, .ref qb, .ref qc, .int mz, .int mw, .long mx, .long my, .int mr, .int ml, .int mf, .int ms])), (qa, .inl (cI, 40, .inl pa)), (qb, .inl (cI, 40, .inl pb)), (qc, .inl (cI, 40, .inl po))] := by rw [hA]; exact zIn_self hD0
  have hS : va_S A s.heap s.heap [] := va_S.rf
  rw [← hA] at hQ
  have k24 : ∀ (n : Nat) (f0_12_24 : Int32) (f0_13_24 : Int32) (f0_14_24 : Int64) (f0_15_24 : Int64) (x3_24 : Int64) (x7_24 : Int32) (x8_24 : Int32) (x5_24 : Int32) (x6_24 : Int32) (f0_12_55e : Int32) (f0_13_55e : Int32) (f0_14_55e : Int64) (f0_15_55e : Int64) (x3_55e : Int64) (x5_55e : Int32) (x6_55e : Int32) (H : Heap) (locs : List Loc) (ls : Array Slot), lv_has ls 9 [(0, .ref qm), (1, .int i1), (2, .int i2), (3, .long x3_24), (5, .int x5_24), (6, .int x6_24), (7, .int x7_24), (8, .int x8_24)] → va_P D vwCl [(qm, .inr (4, [.int mt, .int mh, .int ma, .int mc, .long m1, .long m2, .long m3, .long m4, .int mp, .ref qa, .ref qb, .ref qc, .int f0_12_24, .int f0_13_24, .long f0_14_24, .long f0_15_24, .int mr, .int ml, .int mf, .int ms])), (qa, .inl (cI, 40, .inl pa)), (qb, .inl (cI, 40, .inl pb)), (qc, .inl (cI, 40, .inl po))] H → va_D A [(qm, .inr (4, [.int mt, .int mh, .int ma, .int mc, .long m1, .long m2, .long m3, .long m4, .int mp, .ref qa, .ref qb, .ref qc, .int f0_12_24, .int f0_13_24, .long f0_14_24, .long f0_15_24, .int mr, .int ml, .int mf, .int ms])), (qa, .inl (cI, 40, .inl pa)), (qb, .inl (cI, 40, .inl pb)), (qc, .inl (cI, 40, .inl po))] → va_S A s.heap H locs → a_md_makes_L24 mp ml m1 m2 pa pb i2 n f0_12_24 f0_13_24 f0_14_24 f0_15_24 x3_24 x7_24 x8_24 x5_24 x6_24 = some (f0_12_55e, f0_13_55e, f0_14_55e, f0_15_55e, x3_55e, x5_55e, x6_55e) → (∀ (H : Heap) (locs : List Loc) (ls : Array Slot), lv_has ls 9 [(0, .ref qm), (1, .int i1), (2, .int i2), (3, .long x3_55e), (5, .int x5_55e), (6, .int x6_55e)] → va_P D vwCl [(qm, .inr (4, [.int mt, .int mh, .int ma, .int mc, .long m1, .long m2, .long m3, .long m4, .int mp, .ref qa, .ref qb, .ref qc, .int f0_12_55e, .int f0_13_55e, .long f0_14_55e, .long f0_15_55e, .int mr, .int ml, .int mf, .int ms])), (qa, .inl (cI, 40, .inl pa)), (qb, .inl (cI, 40, .inl pb)), (qc, .inl (cI, 40, .inl po))] H → va_D A [(qm, .inr (4, [.int mt, .int mh, .int ma, .int mc, .long m1, .long m2, .long m3, .long m4, .int mp, .ref qa, .ref qb, .ref qc, .int f0_12_55e, .int f0_13_55e, .long f0_14_55e, .long f0_15_55e, .int mr, .int ml, .int mf, .int ms])), (qa, .inl (cI, 40, .inl pa)), (qb, .inl (cI, 40, .inl pb)), (qc, .inl (cI, 40, .inl po))] → va_S A s.heap H locs → W p l e R s m args below meth c H locs 0 0 Q (F0 m 55 ls [])) → W p l e R s m args below meth c H locs 0 0 Q (F0 m 24 ls []) := by
    intro n
    induction n with
    | zero => intro f0_12_24 f0_13_24 f0_14_24 f0_15_24 x3_24 x7_24 x8_24 x5_24 x6_24 f0_12_55e f0_13_55e f0_14_55e f0_15_55e x3_55e x5_55e x6_55e H locs ls hl hP hD hS hm kk; rw [a_md_makes_L24] at hm; cases hm
    | succ n ih =>
      intro f0_12_24 f0_13_24 f0_14_24 f0_15_24 x3_24 x7_24 x8_24 x5_24 x6_24 f0_12_55e f0_13_55e f0_14_55e f0_15_55e x3_55e x5_55e x6_55e H locs ls hl hP hD hS hm kk
      rw [a_md_makes_L24] at hm
      refine lv_iload (pc := 24) hx hb d_md_makes_24 (lv_at hl 7 rfl) ?_
      refine lv_aload_n (pc := 26) hx hb d_md_makes_26 rfl (lv_at hl 0 rfl) ?_
      refine va_get (pc := 27) (D := D) (ci := 4) (v := .int ml) (C := "TorsionDeskModel") (T := tX4) (N := 20) hx hb hB lX4 hown hK hP 0 rfl rfl 17 (by decide) (hB _ zw_434) (fun _ h9 => h9) rfl d_md_makes_27 ?_
      refine lv_icmp_ge (pc := 30) (tgt := 55) hx hb d_md_makes_30 rfl (fun h1 => ?_) (fun h1 => ?_)
      · rw [if_pos h1] at hm
        cases hm
        exact kk H locs ls (lv_sub hl [0, 1, 2, 3, 4, 5] rfl) hP hD hS
      rw [if_neg h1] at hm
      refine lv_lload_n (pc := 33) hx hb d_md_makes_33 rfl (lv_at hl 3 rfl) ?_
      refine lv_lconst (pc := 34) (v := (1 : Int64)) hx hb d_md_makes_34 (by decide) ?_
      refine lv_iload (pc := 35) hx hb d_md_makes_35 (lv_at hl 6 rfl) ?_
      refine lv_lshl (pc := 37) hx hb d_md_makes_37 rfl ?_
      refine lv_lor (pc := 38) hx hb d_md_makes_38 ?_
      refine lv_lstore_n (pc := 39) (lv' := [(3, .long (x3_24 ||| ((1 : Int64) <<< (x7_24.toInt64 &&& 63)))), (0, .ref qm), (1, .int i1), (2, .int i2), (5, .int x5_24), (6, .int x6_24), (7, .int x7_24), (8, .int x8_24)]) hx hb d_md_makes_39 rfl hl (Nat.le_of_ble_eq_true rfl) rfl (fun ls hl => ?_)
      refine lv_aload_n (pc := 40) hx hb d_md_makes_40 rfl (lv_at hl 1 rfl) ?_
      refine lv_iload (pc := 41) hx hb d_md_makes_41 (lv_at hl 6 rfl) ?_
      refine lv_iload_n (pc := 43) hx hb d_md_makes_43 rfl (lv_at hl 3 rfl) ?_
      obtain ⟨⟨r_c44, o0_12_c44, o0_13_c44, o0_14_c44, o0_15_c44⟩, c2, hm⟩ := zbind hm
      try dsimp only at hm
      refine zwV (pc := 44) (As := [.int x7_24, .int i2]) (rest := []) ⟨hx, hb, hml, hown, hB⟩ (w_a_md_sumOf l D cI cJ qm qa qb qc mt mh ma mc mp f0_12_24 f0_13_24 mr ml mf ms m1 m2 m3 m4 f0_14_24 f0_15_24 pa pb po x7_24 i2 n r_c44 o0_12_c44 o0_13_c44 o0_14_c44 o0_15_c44 c2) (cwV 2 hB (zgV zw_523 zw_525 zv_md_sumOf zw_5 zw_526) rfl rfl rfl (by decide +kernel) ⟨by rw [hR]; exact Nat.le_of_ble_eq_true rfl, by rw [hR]; exact Nat.le_of_ble_eq_true rfl⟩) hK hP hD hS [0, 1, 2, 3] (by decide) rfl rfl rfl rfl rfl rfl hl.1 rfl (Nat.le_of_ble_eq_true rfl) d_md_makes_44 ⟨Nat.zero_le _, Nat.zero_le _⟩ (fun H locs hP hD hS => ?_)
      have hP : va_P D vwCl [(qm, .inr (4, [.int mt, .int mh, .int ma, .int mc, .long m1, .long m2, .long m3, .long m4, .int mp, .ref qa, .ref qb, .ref qc, .int o0_12_c44, .int o0_13_c44, .long o0_14_c44, .long o0_15_c44, .int mr, .int ml, .int mf, .int ms])), (qa, .inl (cI, 40, .inl pa)), (qb, .inl (cI, 40, .inl pb)), (qc, .inl (cI, 40, .inl po))] H := hP
      have hD : va_D A [(qm, .inr (4, [.int mt, .int mh, .int ma, .int mc, .long m1, .long m2, .long m3, .long m4, .int mp, .ref qa, .ref qb, .ref qc, .int o0_12_c44, .int o0_13_c44, .long o0_14_c44, .long o0_15_c44, .int mr, .int ml, .int mf, .int ms])), (qa, .inl (cI, 40, .inl pa)), (qb, .inl (cI, 40, .inl pb)), (qc, .inl (cI, 40, .inl po))] := hD
      refine lv_istore (pc := 47) (lv' := [(7, .int r_c44), (3, .long (x3_24 ||| ((1 : Int64) <<< (x7_24.toInt64 &&& 63)))), (0, .ref qm), (1, .int i1), (2, .int i2), (5, .int x5_24), (6, .int x6_24), (8, .int x8_24)]) hx hb d_md_makes_47 hl (Nat.le_of_ble_eq_true rfl) rfl (fun ls hl => ?_)
      refine lv_iinc (pc := 49) (k := 7) (v := x8_24 + (1 : Int32)) (lv' := [(8, .int (x8_24 + (1 : Int32))), (7, .int r_c44), (3, .long (x3_24 ||| ((1 : Int64) <<< (x7_24.toInt64 &&& 63)))), (0, .ref qm), (1, .int i1), (2, .int i2), (5, .int x5_24), (6, .int x6_24)]) hx hb d_md_makes_49 hl rfl (congrArg (x8_24 + ·) (by decide)) (Nat.le_of_ble_eq_true rfl) rfl (fun ls hl => ?_)
      refine lv_goto (pc := 52) (tgt := 24) hx hb d_md_makes_52 rfl ?_
      exact ih o0_12_c44 o0_13_c44 o0_14_c44 o0_15_c44 (x3_24 ||| ((1 : Int64) <<< (x7_24.toInt64 &&& 63))) r_c44 (x8_24 + (1 : Int32)) x5_24 x6_24 f0_12_55e f0_13_55e f0_14_55e f0_15_55e x3_55e x5_55e x6_55e H locs ls (lv_sub hl [3, 4, 5, 2, 6, 7, 1, 0] rfl) hP hD hS hm kk
  have k8 : ∀ (n : Nat) (f0_12_8 : Int32) (f0_13_8 : Int32) (f0_14_8 : Int64) (f0_15_8 : Int64) (x5_8 : Int32) (x6_8 : Int32) (x3_8 : Int64) (H : Heap) (locs : List Loc) (ls : Array Slot), lv_has ls 9 [(0, .ref qm), (1, .int i1), (2, .int i2), (3, .long x3_8), (5, .int x5_8), (6, .int x6_8)] → va_P D vwCl [(qm, .inr (4, [.int mt, .int mh, .int ma, .int mc, .long m1, .long m2, .long m3, .long m4, .int mp, .ref qa, .ref qb, .ref qc, .int f0_12_8, .int f0_13_8, .long f0_14_8, .long f0_15_8, .int mr, .int ml, .int mf, .int ms])), (qa, .inl (cI, 40, .inl pa)), (qb, .inl (cI, 40, .inl pb)), (qc, .inl (cI, 40, .inl po))] H → va_D A [(qm, .inr (4, [.int mt, .int mh, .int ma, .int mc, .long m1, .long m2, .long m3, .long m4, .int mp, .ref qa, .ref qb, .ref qc, .int f0_12_8, .int f0_13_8, .long f0_14_8, .long f0_15_8, .int mr, .int ml, .int mf, .int ms])), (qa, .inl (cI, 40, .inl pa)), (qb, .inl (cI, 40, .inl pb)), (qc, .inl (cI, 40, .inl po))] → va_S A s.heap H locs → a_md_makes_L8 mp mr ml m1 m2 pa pb i1 i2 n f0_12_8 f0_13_8 f0_14_8 f0_15_8 x5_8 x6_8 x3_8 = some (r0, r1, r2, r3, r4) → W p l e R s m args below meth c H locs 0 0 Q (F0 m 8 ls []) := by
    intro n
    induction n with
    | zero => intro f0_12_8 f0_13_8 f0_14_8 f0_15_8 x5_8 x6_8 x3_8  H locs ls hl hP hD hS hm; rw [a_md_makes_L8] at hm; cases hm
    | succ n ih =>
      intro f0_12_8 f0_13_8 f0_14_8 f0_15_8 x5_8 x6_8 x3_8  H locs ls hl hP hD hS hm
      rw [a_md_makes_L8] at hm
      refine lv_iload (pc := 8) hx hb d_md_makes_8 (lv_at hl 5 rfl) ?_
      refine lv_aload_n (pc := 10) hx hb d_md_makes_10 rfl (lv_at hl 0 rfl) ?_
      refine va_get (pc := 11) (D := D) (ci := 4) (v := .int mr) (C := "TorsionDeskModel") (T := tX4) (N := 20) hx hb hB lX4 hown hK hP 0 rfl rfl 16 (by decide) (hB _ zw_433) (fun _ h9 => h9) rfl d_md_makes_11 ?_
      refine lv_icmp_ge (pc := 14) (tgt := 70) hx hb d_md_makes_14 rfl (fun h3 => ?_) (fun h3 => ?_)
      · rw [if_pos h3] at hm
        refine lv_lload_n (pc := 70) hx hb d_md_makes_70 rfl (lv_at hl 3 rfl) ?_
        refine lv_lconst (pc := 71) (v := (1 : Int64)) hx hb d_md_makes_71 (by decide) ?_
        refine lv_aload_n (pc := 72) hx hb d_md_makes_72 rfl (lv_at hl 0 rfl) ?_
        refine va_get (pc := 73) (D := D) (ci := 4) (v := .int mp) (C := "TorsionDeskModel") (T := tX4) (N := 20) hx hb hB lX4 hown hK hP 0 rfl rfl 8 (by decide) (hB _ zw_425) (fun _ h9 => h9) rfl d_md_makes_73 ?_
        refine lv_lshl (pc := 76) hx hb d_md_makes_76 rfl ?_
        refine lv_lconst (pc := 77) (v := (1 : Int64)) hx hb d_md_makes_77 (by decide) ?_
        refine lv_lsub (pc := 78) hx hb d_md_makes_78 ?_
        refine zl_ne (pc := 79) (tgt := 87) hx hb d_md_makes_79 d_md_makes_80 rfl (fun h4 => ?_) (fun h4 => ?_)
        · rw [if_neg h4] at hm
          refine lv_iconst (pc := 87) (v := (0 : Int32)) hx hb d_md_makes_87 (by decide) ?_
          cases hm
          rw [hQ]
          exact W.zret (pc := 88) hx hb hr rfl (fun t ht _ => ⟨rfl, by rw [ht]; exact hP, hS.F ht⟩) hS.2.2 d_md_makes_88
        rw [if_pos h4] at hm
        refine lv_iconst (pc := 83) (v := (1 : Int32)) hx hb d_md_makes_83 (by decide) ?_
        refine lv_goto (pc := 84) (tgt := 88) hx hb d_md_makes_84 rfl ?_
        cases hm
        rw [hQ]
        exact W.zret (pc := 88) hx hb hr rfl (fun t ht _ => ⟨rfl, by rw [ht]; exact hP, hS.F ht⟩) hS.2.2 d_md_makes_88
      rw [if_neg h3] at hm
      refine lv_iload (pc := 17) hx hb d_md_makes_17 (lv_at hl 4 rfl) ?_
      refine lv_istore (pc := 19) (lv' := [(7, .int x5_8), (0, .ref qm), (1, .int i1), (2, .int i2), (3, .long x3_8), (5, .int x5_8), (6, .int x6_8)]) hx hb d_md_makes_19 hl (Nat.le_of_ble_eq_true rfl) rfl (fun ls hl => ?_)
      refine lv_iconst (pc := 21) (v := (0 : Int32)) hx hb d_md_makes_21 (by decide) ?_
      refine lv_istore (pc := 22) (lv' := [(8, .int (0 : Int32)), (7, .int x5_8), (0, .ref qm), (1, .int i1), (2, .int i2), (3, .long x3_8), (5, .int x5_8), (6, .int x6_8)]) hx hb d_md_makes_22 hl (Nat.le_of_ble_eq_true rfl) rfl (fun ls hl => ?_)
      obtain ⟨⟨f0_12_55e, f0_13_55e, f0_14_55e, f0_15_55e, x3_55e, x5_55e, x6_55e⟩, i6, hm⟩ := zbind hm
      try dsimp only at hm
      refine k24 n f0_12_8 f0_13_8 f0_14_8 f0_15_8 x3_8 x5_8 (0 : Int32) x5_8 x6_8 f0_12_55e f0_13_55e f0_14_55e f0_15_55e x3_55e x5_55e x6_55e H locs ls (lv_sub hl [2, 3, 4, 5, 6, 7, 1, 0] rfl) hP hD hS i6 (fun H locs ls hl hP hD hS => ?_)
      refine lv_aload_n (pc := 55) hx hb d_md_makes_55 rfl (lv_at hl 0 rfl) ?_
      refine lv_iload (pc := 56) hx hb d_md_makes_56 (lv_at hl 4 rfl) ?_
      refine lv_iload_n (pc := 58) hx hb d_md_makes_58 rfl (lv_at hl 1 rfl) ?_
      obtain ⟨⟨r_c59, o0_12_c59, o0_13_c59, o0_14_c59, o0_15_c59⟩, c5, hm⟩ := zbind hm
      try dsimp only at hm
      refine zwV (pc := 59) (As := [.int x5_55e, .int i1]) (rest := []) ⟨hx, hb, hml, hown, hB⟩ (w_a_md_sumOf l D cI cJ qm qa qb qc mt mh ma mc mp f0_12_55e f0_13_55e mr ml mf ms m1 m2 m3 m4 f0_14_55e f0_15_55e pa pb po x5_55e i1 n r_c59 o0_12_c59 o0_13_c59 o0_14_c59 o0_15_c59 c5) (cwV 2 hB (zgV zw_523 zw_525 zv_md_sumOf zw_5 zw_526) rfl rfl rfl (by decide +kernel) ⟨by rw [hR]; exact Nat.le_of_ble_eq_true rfl, by rw [hR]; exact Nat.le_of_ble_eq_true rfl⟩) hK hP hD hS [0, 1, 2, 3] (by decide) rfl rfl rfl rfl rfl rfl hl.1 rfl (Nat.le_of_ble_eq_true rfl) d_md_makes_59 ⟨Nat.zero_le _, Nat.zero_le _⟩ (fun H locs hP hD hS => ?_)
      have hP : va_P D vwCl [(qm, .inr (4, [.int mt, .int mh, .int ma, .int mc, .long m1, .long m2, .long m3, .long m4, .int mp, .ref qa, .ref qb, .ref qc, .int o0_12_c59, .int o0_13_c59, .long o0_14_c59, .long o0_15_c59, .int mr, .int ml, .int mf, .int ms])), (qa, .inl (cI, 40, .inl pa)), (qb, .inl (cI, 40, .inl pb)), (qc, .inl (cI, 40, .inl po))] H := hP
      have hD : va_D A [(qm, .inr (4, [.int mt, .int mh, .int ma, .int mc, .long m1, .long m2, .long m3, .long m4, .int mp, .ref qa, .ref qb, .ref qc, .int o0_12_c59, .int o0_13_c59, .long o0_14_c59, .long o0_15_c59, .int mr, .int ml, .int mf, .int ms])), (qa, .inl (cI, 40, .inl pa)), (qb, .inl (cI, 40, .inl pb)), (qc, .inl (cI, 40, .inl po))] := hD
      refine lv_istore (pc := 62) (lv' := [(5, .int r_c59), (0, .ref qm), (1, .int i1), (2, .int i2), (3, .long x3_55e), (6, .int x6_55e)]) hx hb d_md_makes_62 hl (Nat.le_of_ble_eq_true rfl) rfl (fun ls hl => ?_)
      refine lv_iinc (pc := 64) (k := 5) (v := x6_55e + (1 : Int32)) (lv' := [(6, .int (x6_55e + (1 : Int32))), (5, .int r_c59), (0, .ref qm), (1, .int i1), (2, .int i2), (3, .long x3_55e)]) hx hb d_md_makes_64 hl rfl (congrArg (x6_55e + ·) (by decide)) (Nat.le_of_ble_eq_true rfl) rfl (fun ls hl => ?_)
      refine lv_goto (pc := 67) (tgt := 8) hx hb d_md_makes_67 rfl ?_
      exact ih o0_12_c59 o0_13_c59 o0_14_c59 o0_15_c59 r_c59 (x6_55e + (1 : Int32)) x3_55e H locs ls (lv_sub hl [2, 3, 4, 5, 1, 0] rfl) hP hD hS hm
  have main : ∀ (H : Heap) (locs : List Loc), va_P D vwCl [(qm, .inr (4, [.int mt, .int mh, .int ma, .int mc, .long m1, .long m2, .long m3, .long m4, .int mp, .ref qa, .ref qb, .ref qc, .int mz, .int mw, .long mx, .long my, .int mr, .int ml, .int mf, .int ms])), (qa, .inl (cI, 40, .inl pa)), (qb, .inl (cI, 40, .inl pb)), (qc, .inl (cI, 40, .inl po))] H → va_D A [(qm, .inr (4, [.int mt, .int mh, .int ma, .int mc, .long m1, .long m2, .long m3, .long m4, .int mp, .ref qa, .ref qb, .ref qc, .int mz, .int mw, .long mx, .long my, .int mr, .int ml, .int mf, .int ms])), (qa, .inl (cI, 40, .inl pa)), (qb, .inl (cI, 40, .inl pb)), (qc, .inl (cI, 40, .inl po))] → va_S A s.heap H locs → W p l e R s m args below meth c H locs 0 0 Q (F0 m 0 ls []) := by
    intro H locs hP hD hS
    rw [a_md_makes] at hm
    refine lv_lconst (pc := 0) (v := (0 : Int64)) hx hb d_md_makes_0 (by decide) ?_
    refine lv_lstore_n (pc := 1) (lv' := [(3, .long (0 : Int64)), (0, .ref qm), (1, .int i1), (2, .int i2)]) hx hb d_md_makes_1 rfl hl (Nat.le_of_ble_eq_true rfl) rfl (fun ls hl => ?_)
    refine lv_iconst (pc := 2) (v := (0 : Int32)) hx hb d_md_makes_2 (by decide) ?_
    refine lv_istore (pc := 3) (lv' := [(5, .int (0 : Int32)), (3, .long (0 : Int64)), (0, .ref qm), (1, .int i1), (2, .int i2)]) hx hb d_md_makes_3 hl (Nat.le_of_ble_eq_true rfl) rfl (fun ls hl => ?_)
    refine lv_iconst (pc := 5) (v := (0 : Int32)) hx hb d_md_makes_5 (by decide) ?_
    refine lv_istore (pc := 6) (lv' := [(6, .int (0 : Int32)), (5, .int (0 : Int32)), (3, .long (0 : Int64)), (0, .ref qm), (1, .int i1), (2, .int i2)]) hx hb d_md_makes_6 hl (Nat.le_of_ble_eq_true rfl) rfl (fun ls hl => ?_)
    exact k8 N mz mw mx my (0 : Int32) (0 : Int32) (0 : Int64) H locs ls (lv_sub hl [3, 4, 5, 2, 1, 0] rfl) hP hD hS hm
  exact main s.heap [] hP hD hS
abbrev rm_md_structure_x : Room := { frames := 3, cells := 0, slots := 0, locals := 88 }
def a_md_structure_x_L103 (mp : Int32) (m1 : Int64) (m2 : Int64) (pa : Nat → Int32) (pb : Nat → Int32) (po : Nat → Int32) (f0_16_69 : Int32) (f0_17_69 : Int32) : Nat → Int32 → Int32 → Int32 → Int32 → Int64 → Int64 → Option (Int32 × Int32 × Int64 × Int64 × Int32 × Int32 × Int32 × Int32)
  | 0, _, _, _, _, _, _ => none
  | n + 1, f0_19_103, f0_18_103, f0_12_103, f0_13_103, f0_14_103, f0_15_103 => (if (mp - (1 : Int32)) ≤ f0_18_103 then (some (f0_12_103, f0_13_103, f0_14_103, f0_15_103, f0_16_69, f0_17_69, f0_18_103, f0_19_103)) else (if (f0_18_103 < 0 ∨ 40 ≤ f0_18_103.toNatClampNeg) then none else (if (po f0_18_103.toNatClampNeg) = f0_16_69 then ((a_md_makes n mp f0_12_103 f0_13_103 f0_16_69 f0_17_69 m1 m2 f0_14_103 f0_15_103 pa pb f0_18_103 f0_19_103).bind (fun (r_c141, o0_12_c141, o0_13_c141, o0_14_c141, o0_15_c141) => (if r_c141 = 0 then a_md_structure_x_L103 mp m1 m2 pa pb po f0_16_69 f0_17_69 n f0_19_103 (f0_18_103 + (1 : Int32)) o0_12_c141 o0_13_c141 o0_14_c141 o0_15_c141 else (some (o0_12_c141, o0_13_c141, o0_14_c141, o0_15_c141, f0_16_69, f0_17_69, f0_18_103, f0_19_103))))) else a_md_structure_x_L103 mp m1 m2 pa pb po f0_16_69 f0_17_69 n f0_19_103 (f0_18_103 + (1 : Int32)) f0_12_103 f0_13_103 f0_14_103 f0_15_103)))
def a_md_structure_x_L69 (mp : Int32) (mz : Int32) (mw : Int32) (m1 : Int64) (m2 : Int64) (mx : Int64) (my : Int64) (pa : Nat → Int32) (pb : Nat → Int32) (po : Nat → Int32) : Nat → Int32 → Int32 → Int32 → Option (Int32 × Int32 × Int64 × Int64 × Int32 × Int32 × Int32 × Int32)
  | 0, _, _, _ => none
  | n + 1, f0_16_69, f0_17_69, f0_19_69 => (if (f0_19_69 < 0 ∨ 40 ≤ f0_19_69.toNatClampNeg) then none else (if (po f0_19_69.toNatClampNeg) = f0_17_69 then a_md_structure_x_L103 mp m1 m2 pa pb po f0_16_69 f0_17_69 n f0_19_69 (0 : Int32) mz mw mx my else a_md_structure_x_L69 mp mz mw m1 m2 mx my pa pb po n f0_16_69 f0_17_69 (f0_19_69 + (1 : Int32))))
def a_md_structure_x_L7 (mp : Int32) (mz : Int32) (mw : Int32) (m1 : Int64) (m2 : Int64) (mx : Int64) (my : Int64) (pa : Nat → Int32) (pb : Nat → Int32) (po : Nat → Int32) : Nat → Int32 → Int32 → Option (Int32 × Int32 × Int64 × Int64 × Int32 × Int32 × Int32 × Int32)
  | 0, _, _ => none
  | n + 1, x1_7, f0_17_7 => (if mp ≤ x1_7 then (if f0_17_7 = 0 then none else a_md_structure_x_L69 mp mz mw m1 m2 mx my pa pb po n (mp / f0_17_7) f0_17_7 (0 : Int32)) else (if (x1_7 < 0 ∨ 40 ≤ x1_7.toNatClampNeg) then none else (if (po x1_7.toNatClampNeg) ≤ f0_17_7 then a_md_structure_x_L7 mp mz mw m1 m2 mx my pa pb po n (x1_7 + (1 : Int32)) f0_17_7 else a_md_structure_x_L7 mp mz mw m1 m2 mx my pa pb po n (x1_7 + (1 : Int32)) (po x1_7.toNatClampNeg))))
def a_md_structure_x (N : Nat) (mp : Int32) (mz : Int32) (mw : Int32) (m1 : Int64) (m2 : Int64) (mx : Int64) (my : Int64) (pa : Nat → Int32) (pb : Nat → Int32) (po : Nat → Int32) : Option (Int32 × Int32 × Int64 × Int64 × Int32 × Int32 × Int32 × Int32) := a_md_structure_x_L7 mp mz mw m1 m2 mx my pa pb po N (1 : Int32) (1 : Int32)
set_option maxHeartbeats 4000000 in
set_option maxRecDepth 100000 in
theorem w_a_md_structure_x (l : Launch) (D : va_G) (cI cJ : ClassId) (qm : Nat) (qa : Nat) (qb : Nat) (qc : Nat) (mt : Int32) (mh : Int32) (ma : Int32) (mc : Int32) (mp : Int32) (mz : Int32) (mw : Int32) (mr : Int32) (ml : Int32) (mf : Int32) (ms : Int32) (m1 : Int64) (m2 : Int64) (m3 : Int64) (m4 : Int64) (mx : Int64) (my : Int64) (pa : Nat → Int32) (pb : Nat → Int32) (po : Nat → Int32) (N : Nat) (r0 : Int32) (r1 : Int32) (r2 : Int64) (r3 : Int64) (r4 : Int32) (r5 : Int32) (r6 : Int32) (r7 : Int32) (hm : a_md_structure_x N mp mz mw m1 m2 mx my pa pb po = some (r0, r1, r2, r3, r4, r5, r6, r7)) : Met l y_md_structure_x zs_md_structure_x rm_md_structure_x (zPc [.ref qm] D [(qm, .inr (4, [.int mt, .int mh, .int ma, .int mc, .long m1, .long m2, .long m3, .long m4, .int mp, .ref qa, .ref qb, .ref qc, .int mz, .int mw, .long mx, .long my, .int mr, .int ml, .int mf, .int ms])), (qa, .inl (cI, 40, .inl pa)), (qb, .inl (cI, 40, .inl pb)), (qc, .inl (cI, 40, .inl po))] [(cI, .int), (cJ, .long)]) (zWr none D (zIn [(qm, .inr (4, [.int mt, .int mh, .int ma, .int mc, .long m1, .long m2, .long m3, .long m4, .int mp, .ref qa, .ref qb, .ref qc, .int mz, .int mw, .long mx, .long my, .int mr, .int ml, .int mf, .int ms])), (qa, .inl (cI, 40, .inl pa)), (qb, .inl (cI, 40, .inl pb)), (qc, .inl (cI, 40, .inl po))]) [(qm, .inr (4, [.int mt, .int mh, .int ma, .int mc, .long m1, .long m2, .long m3, .long m4, .int mp, .ref qa, .ref qb, .ref qc, .int r0, .int r1, .long r2, .long r3, .int r4, .int r5, .int r6, .int r7])), (qa, .inl (cI, 40, .inl pa)), (qb, .inl (cI, 40, .inl pb)), (qc, .inl (cI, 40, .inl po))]) 0 0 (zIn [(qm, .inr (4, [.int mt, .int mh, .int ma, .int mc, .long m1, .long m2, .long m3, .long m4, .int mp, .ref qa, .ref qb, .ref qc, .int mz, .int mw, .long mx, .long my, .int mr, .int ml, .int mf, .int ms])), (qa, .inl (cI, 40, .inl pa)), (qb, .inl (cI, 40, .inl pb)), (qc, .inl (cI, 40, .inl po))]) := by
  refine zm (by decide) (Nat.le_of_ble_eq_true rfl) ?_
  intro p e s m args below meth c R Q hR hQ hargs hx hb hml hr hlocks hnm hB hown hP hK hD0 ls hl
  have hown : s.vm.findClass "TorsionDeskModel" = some m.cls := hown
  have hl : lv_has ls 2 [(0, .ref qm)] := hl
  obtain ⟨A, hA⟩ : ∃ A, A = zIn [(qm, .inr (4, [.int mt, .int mh, .int ma, .int mc, .long m1, .long m2, .long m3, .long m4, .int mp, .ref qa, .ref qb, .ref qc, .int mz, .int mw, .long mx, .long my, .int mr, .int ml, .int mf, .int ms])), (qa, .inl (cI, 40, .inl pa)), (qb, .inl (cI, 40, .inl pb)), (qc, .inl (cI, 40, .inl po))] := ⟨_, rfl⟩
  have hD : va_D A [(qm, .inr (4, [.int mt, .int mh, .int ma, .int mc, .long m1, .long m2, .long m3, .long m4, .int mp, .ref qa, .ref qb, .ref qc, .int mz, .int mw, .long mx, .long my, .int mr, .int ml, .int mf, .int ms])), (qa, .inl (cI, 40, .inl pa)), (qb, .inl (cI, 40, .inl pb)), (qc, .inl (cI, 40, .inl po))] := by rw [hA]; exact zIn_self hD0
  have hS : va_S A s.heap s.heap [] := va_S.rf
  rw [← hA] at hQ
  have k103 : ∀ (f0_16_69 : Int32) (f0_17_69 : Int32) (n : Nat) (f0_19_103 : Int32) (f0_18_103 : Int32) (f0_12_103 : Int32) (f0_13_103 : Int32) (f0_14_103 : Int64) (f0_15_103 : Int64) (H : Heap) (locs : List Loc) (ls : Array Slot), lv_has ls 2 [(0, .ref qm)] → va_P D vwCl [(qm, .inr (4, [.int mt, .int mh, .int ma, .int mc, .long m1, .long m2, .long m3, .long m4, .int mp, .ref qa, .ref qb, .ref qc, .int f0_12_103, .int f0_13_103, .long f0_14_103, .long f0_15_103, .int f0_16_69, .int f0_17_69, .int f0_18_103, .int f0_19_103])), (qa, .inl (cI, 40, .inl pa)), (qb, .inl (cI, 40, .inl pb)), (qc, .inl (cI, 40, .inl po))] H → va_D A [(qm, .inr (4, [.int mt, .int mh, .int ma, .int mc, .long m1, .long m2, .long m3, .long m4, .int mp, .ref qa, .ref qb, .ref qc, .int f0_12_103, .int f0_13_103, .long f0_14_103, .long f0_15_103, .int f0_16_69, .int f0_17_69, .int f0_18_103, .int f0_19_103])), (qa, .inl (cI, 40, .inl pa)), (qb, .inl (cI, 40, .inl pb)), (qc, .inl (cI, 40, .inl po))] → va_S A s.heap H locs → a_md_structure_x_L103 mp m1 m2 pa pb po f0_16_69 f0_17_69 n f0_19_103 f0_18_103 f0_12_103 f0_13_103 f0_14_103 f0_15_103 = some (r0, r1, r2, r3, r4, r5, r6, r7) → W p l e R s m args below meth c H locs 0 0 Q (F0 m 103 ls []) := by
    intro f0_16_69 f0_17_69 n
    induction n with
    | zero => intro f0_19_103 f0_18_103 f0_12_103 f0_13_103 f0_14_103 f0_15_103  H locs ls hl hP hD hS hm; rw [a_md_structure_x_L103] at hm; cases hm
    | succ n ih =>
      intro f0_19_103 f0_18_103 f0_12_103 f0_13_103 f0_14_103 f0_15_103  H locs ls hl hP hD hS hm
      rw [a_md_structure_x_L103] at hm
      refine lv_aload_n (pc := 103) hx hb d_md_structure_x_103 rfl (lv_at hl 0 rfl) ?_
      refine va_get (pc := 104) (D := D) (ci := 4) (v := .int f0_18_103) (C := "TorsionDeskModel") (T := tX4) (N := 20) hx hb hB lX4 hown hK hP 0 rfl rfl 18 (by decide) (hB _ zw_435) (fun _ h9 => h9) rfl d_md_structure_x_104 ?_
      refine lv_aload_n (pc := 107) hx hb d_md_structure_x_107 rfl (lv_at hl 0 rfl) ?_
      refine va_get (pc := 108) (D := D) (ci := 4) (v := .int mp) (C := "TorsionDeskModel") (T := tX4) (N := 20) hx hb hB lX4 hown hK hP 0 rfl rfl 8 (by decide) (hB _ zw_425) (fun _ h9 => h9) rfl d_md_structure_x_108 ?_
      refine lv_iconst (pc := 111) (v := (1 : Int32)) hx hb d_md_structure_x_111 (by decide) ?_
      refine lv_isub (pc := 112) hx hb d_md_structure_x_112 ?_
      refine lv_icmp_ge (pc := 113) (tgt := 160) hx hb d_md_structure_x_113 rfl (fun h7 => ?_) (fun h7 => ?_)
      · rw [if_pos h7] at hm
        cases hm
        rw [hQ]
        exact W.vret (pc := 160) hx hb hr (fun t ht _ => ⟨rfl, by rw [ht]; exact hP, hS.F ht⟩) hS.2.2 d_md_structure_x_160
      rw [if_neg h7] at hm
      refine lv_aload_n (pc := 116) hx hb d_md_structure_x_116 rfl (lv_at hl 0 rfl) ?_
      refine va_get (pc := 117) (D := D) (ci := 4) (v := .ref qc) (C := "TorsionDeskModel") (T := tX4) (N := 20) hx hb hB lX4 hown hK hP 0 rfl rfl 11 (by decide) (hB _ zw_428) (fun _ h9 => h9) rfl d_md_structure_x_117 ?_
      refine lv_aload_n (pc := 120) hx hb d_md_structure_x_120 rfl (lv_at hl 0 rfl) ?_
      refine va_get (pc := 121) (D := D) (ci := 4) (v := .int f0_18_103) (C := "TorsionDeskModel") (T := tX4) (N := 20) hx hb hB lX4 hown hK hP 0 rfl rfl 18 (by decide) (hB _ zw_435) (fun _ h9 => h9) rfl d_md_structure_x_121 ?_
      by_cases g8 : (f0_18_103 < 0 ∨ 40 ≤ f0_18_103.toNatClampNeg)
      · rw [if_pos g8] at hm; cases hm
      rw [if_neg g8] at hm
      refine va_iald (pc := 124) hx hb hK hP 3 0 rfl rfl g8 d_md_structure_x_124 ?_
      refine lv_aload_n (pc := 125) hx hb d_md_structure_x_125 rfl (lv_at hl 0 rfl) ?_
      refine va_get (pc := 126) (D := D) (ci := 4) (v := .int f0_16_69) (C := "TorsionDeskModel") (T := tX4) (N := 20) hx hb hB lX4 hown hK hP 0 rfl rfl 16 (by decide) (hB _ zw_433) (fun _ h9 => h9) rfl d_md_structure_x_126 ?_
      refine lv_icmp_ne (pc := 129) (tgt := 147) hx hb d_md_structure_x_129 rfl (fun h9 => ?_) (fun h9 => ?_)
      · rw [if_neg h9] at hm
        refine lv_aload_n (pc := 147) hx hb d_md_structure_x_147 rfl (lv_at hl 0 rfl) ?_
        refine lv_dup (pc := 148) hx hb d_md_structure_x_148 rfl ?_
        refine va_get (pc := 149) (D := D) (ci := 4) (v := .int f0_18_103) (C := "TorsionDeskModel") (T := tX4) (N := 20) hx hb hB lX4 hown hK hP 0 rfl rfl 18 (by decide) (hB _ zw_435) (fun _ h9 => h9) rfl d_md_structure_x_149 ?_
        refine lv_iconst (pc := 152) (v := (1 : Int32)) hx hb d_md_structure_x_152 (by decide) ?_
        refine lv_iadd (pc := 153) hx hb d_md_structure_x_153 ?_
        refine va_put (pc := 154) (D := D) (ci := 4) (v := .int (f0_18_103 + (1 : Int32))) (ty := .int) (C := "TorsionDeskModel") (T := tX4) (N := 20) hx hb hB lX4 yX4 yX4_ok nX4 hown hK hP hD hS 0 rfl rfl 18 (by decide) (hB _ zw_435) (fun _ h9 => h9) rfl (by decide +kernel) rfl rfl (Nat.le_of_ble_eq_true rfl) d_md_structure_x_154 (fun H locs hP hD hS => ?_)
        have hP : va_P D vwCl [(qm, .inr (4, [.int mt, .int mh, .int ma, .int mc, .long m1, .long m2, .long m3, .long m4, .int mp, .ref qa, .ref qb, .ref qc, .int f0_12_103, .int f0_13_103, .long f0_14_103, .long f0_15_103, .int f0_16_69, .int f0_17_69, .int (f0_18_103 + (1 : Int32)), .int f0_19_103])), (qa, .inl (cI, 40, .inl pa)), (qb, .inl (cI, 40, .inl pb)), (qc, .inl (cI, 40, .inl po))] H := hP
        have hD : va_D A [(qm, .inr (4, [.int mt, .int mh, .int ma, .int mc, .long m1, .long m2, .long m3, .long m4, .int mp, .ref qa, .ref qb, .ref qc, .int f0_12_103, .int f0_13_103, .long f0_14_103, .long f0_15_103, .int f0_16_69, .int f0_17_69, .int (f0_18_103 + (1 : Int32)), .int f0_19_103])), (qa, .inl (cI, 40, .inl pa)), (qb, .inl (cI, 40, .inl pb)), (qc, .inl (cI, 40, .inl po))] := hD
        refine lv_goto (pc := 157) (tgt := 103) hx hb d_md_structure_x_157 rfl ?_
        exact ih f0_19_103 (f0_18_103 + (1 : Int32)) f0_12_103 f0_13_103 f0_14_103 f0_15_103 H locs ls (lv_sub hl [0] rfl) hP hD hS hm
      rw [if_pos h9] at hm
      refine lv_aload_n (pc := 132) hx hb d_md_structure_x_132 rfl (lv_at hl 0 rfl) ?_
      refine lv_aload_n (pc := 133) hx hb d_md_structure_x_133 rfl (lv_at hl 0 rfl) ?_
      refine va_get (pc := 134) (D := D) (ci := 4) (v := .int f0_18_103) (C := "TorsionDeskModel") (T := tX4) (N := 20) hx hb hB lX4 hown hK hP 0 rfl rfl 18 (by decide) (hB _ zw_435) (fun _ h9 => h9) rfl d_md_structure_x_134 ?_
      refine lv_aload_n (pc := 137) hx hb d_md_structure_x_137 rfl (lv_at hl 0 rfl) ?_
      refine va_get (pc := 138) (D := D) (ci := 4) (v := .int f0_19_103) (C := "TorsionDeskModel") (T := tX4) (N := 20) hx hb hB lX4 hown hK hP 0 rfl rfl 19 (by decide) (hB _ zw_436) (fun _ h9 => h9) rfl d_md_structure_x_138 ?_
      obtain ⟨⟨r_c141, o0_12_c141, o0_13_c141, o0_14_c141, o0_15_c141⟩, c10, hm⟩ := zbind hm
      try dsimp only at hm
      refine zwV (pc := 141) (As := [.int f0_18_103, .int f0_19_103]) (rest := []) ⟨hx, hb, hml, hown, hB⟩ (w_a_md_makes l D cI cJ qm qa qb qc mt mh ma mc mp f0_12_103 f0_13_103 f0_16_69 f0_17_69 f0_18_103 f0_19_103 m1 m2 m3 m4 f0_14_103 f0_15_103 pa pb po f0_18_103 f0_19_103 n r_c141 o0_12_c141 o0_13_c141 o0_14_c141 o0_15_c141 c10) (cwV 2 hB (zgV zw_519 zw_521 zv_md_makes zw_5 zw_522) rfl rfl rfl (by decide +kernel) ⟨by rw [hR]; exact Nat.le_of_ble_eq_true rfl, by rw [hR]; exact Nat.le_of_ble_eq_true rfl⟩) hK hP hD hS [0, 1, 2, 3] (by decide) rfl rfl rfl rfl rfl rfl hl.1 rfl (Nat.le_of_ble_eq_true rfl) d_md_structure_x_141 ⟨Nat.zero_le _, Nat.zero_le _⟩ (fun H locs hP hD hS => ?_)
      have hP : va_P D vwCl [(qm, .inr (4, [.int mt, .int mh, .int ma, .int mc, .long m1, .long m2, .long m3, .long m4, .int mp, .ref qa, .ref qb, .ref qc, .int o0_12_c141, .int o0_13_c141, .long o0_14_c141, .long o0_15_c141, .int f0_16_69, .int f0_17_69, .int f0_18_103, .int f0_19_103])), (qa, .inl (cI, 40, .inl pa)), (qb, .inl (cI, 40, .inl pb)), (qc, .inl (cI, 40, .inl po))] H := hP
      have hD : va_D A [(qm, .inr (4, [.int mt, .int mh, .int ma, .int mc, .long m1, .long m2, .long m3, .long m4, .int mp, .ref qa, .ref qb, .ref qc, .int o0_12_c141, .int o0_13_c141, .long o0_14_c141, .long o0_15_c141, .int f0_16_69, .int f0_17_69, .int f0_18_103, .int f0_19_103])), (qa, .inl (cI, 40, .inl pa)), (qb, .inl (cI, 40, .inl pb)), (qc, .inl (cI, 40, .inl po))] := hD
      refine lv_if_ne (pc := 144) (tgt := 160) hx hb d_md_structure_x_144 rfl (fun h11 => ?_) (fun h11 => ?_)
      · rw [if_neg h11] at hm
        cases hm
        rw [hQ]
        exact W.vret (pc := 160) hx hb hr (fun t ht _ => ⟨rfl, by rw [ht]; exact hP, hS.F ht⟩) hS.2.2 d_md_structure_x_160
      rw [if_pos h11] at hm
      refine lv_aload_n (pc := 147) hx hb d_md_structure_x_147 rfl (lv_at hl 0 rfl) ?_
      refine lv_dup (pc := 148) hx hb d_md_structure_x_148 rfl ?_
      refine va_get (pc := 149) (D := D) (ci := 4) (v := .int f0_18_103) (C := "TorsionDeskModel") (T := tX4) (N := 20) hx hb hB lX4 hown hK hP 0 rfl rfl 18 (by decide) (hB _ zw_435) (fun _ h9 => h9) rfl d_md_structure_x_149 ?_
      refine lv_iconst (pc := 152) (v := (1 : Int32)) hx hb d_md_structure_x_152 (by decide) ?_
      refine lv_iadd (pc := 153) hx hb d_md_structure_x_153 ?_
      refine va_put (pc := 154) (D := D) (ci := 4) (v := .int (f0_18_103 + (1 : Int32))) (ty := .int) (C := "TorsionDeskModel") (T := tX4) (N := 20) hx hb hB lX4 yX4 yX4_ok nX4 hown hK hP hD hS 0 rfl rfl 18 (by decide) (hB _ zw_435) (fun _ h9 => h9) rfl (by decide +kernel) rfl rfl (Nat.le_of_ble_eq_true rfl) d_md_structure_x_154 (fun H locs hP hD hS => ?_)
      have hP : va_P D vwCl [(qm, .inr (4, [.int mt, .int mh, .int ma, .int mc, .long m1, .long m2, .long m3, .long m4, .int mp, .ref qa, .ref qb, .ref qc, .int o0_12_c141, .int o0_13_c141, .long o0_14_c141, .long o0_15_c141, .int f0_16_69, .int f0_17_69, .int (f0_18_103 + (1 : Int32)), .int f0_19_103])), (qa, .inl (cI, 40, .inl pa)), (qb, .inl (cI, 40, .inl pb)), (qc, .inl (cI, 40, .inl po))] H := hP
      have hD : va_D A [(qm, .inr (4, [.int mt, .int mh, .int ma, .int mc, .long m1, .long m2, .long m3, .long m4, .int mp, .ref qa, .ref qb, .ref qc, .int o0_12_c141, .int o0_13_c141, .long o0_14_c141, .long o0_15_c141, .int f0_16_69, .int f0_17_69, .int (f0_18_103 + (1 : Int32)), .int f0_19_103])), (qa, .inl (cI, 40, .inl pa)), (qb, .inl (cI, 40, .inl pb)), (qc, .inl (cI, 40, .inl po))] := hD
      refine lv_goto (pc := 157) (tgt := 103) hx hb d_md_structure_x_157 rfl ?_
      exact ih f0_19_103 (f0_18_103 + (1 : Int32)) o0_12_c141 o0_13_c141 o0_14_c141 o0_15_c141 H locs ls (lv_sub hl [0] rfl) hP hD hS hm
  have k69 : ∀ (n : Nat) (f0_16_69 : Int32) (f0_17_69 : Int32) (f0_19_69 : Int32) (H : Heap) (locs : List Loc) (ls : Array Slot), lv_has ls 2 [(0, .ref qm)] → va_P D vwCl [(qm, .inr (4, [.int mt, .int mh, .int ma, .int mc, .long m1, .long m2, .long m3, .long m4, .int mp, .ref qa, .ref qb, .ref qc, .int mz, .int mw, .long mx, .long my, .int f0_16_69, .int f0_17_69, .int mf, .int f0_19_69])), (qa, .inl (cI, 40, .inl pa)), (qb, .inl (cI, 40, .inl pb)), (qc, .inl (cI, 40, .inl po))] H → va_D A [(qm, .inr (4, [.int mt, .int mh, .int ma, .int mc, .long m1, .long m2, .long m3, .long m4, .int mp, .ref qa, .ref qb, .ref qc, .int mz, .int mw, .long mx, .long my, .int f0_16_69, .int f0_17_69, .int mf, .int f0_19_69])), (qa, .inl (cI, 40, .inl pa)), (qb, .inl (cI, 40, .inl pb)), (qc, .inl (cI, 40, .inl po))] → va_S A s.heap H locs → a_md_structure_x_L69 mp mz mw m1 m2 mx my pa pb po n f0_16_69 f0_17_69 f0_19_69 = some (r0, r1, r2, r3, r4, r5, r6, r7) → W p l e R s m args below meth c H locs 0 0 Q (F0 m 69 ls []) := by
    intro n
    induction n with
    | zero => intro f0_16_69 f0_17_69 f0_19_69  H locs ls hl hP hD hS hm; rw [a_md_structure_x_L69] at hm; cases hm
    | succ n ih =>
      intro f0_16_69 f0_17_69 f0_19_69  H locs ls hl hP hD hS hm
      rw [a_md_structure_x_L69] at hm
      refine lv_aload_n (pc := 69) hx hb d_md_structure_x_69 rfl (lv_at hl 0 rfl) ?_
      refine va_get (pc := 70) (D := D) (ci := 4) (v := .ref qc) (C := "TorsionDeskModel") (T := tX4) (N := 20) hx hb hB lX4 hown hK hP 0 rfl rfl 11 (by decide) (hB _ zw_428) (fun _ h9 => h9) rfl d_md_structure_x_70 ?_
      refine lv_aload_n (pc := 73) hx hb d_md_structure_x_73 rfl (lv_at hl 0 rfl) ?_
      refine va_get (pc := 74) (D := D) (ci := 4) (v := .int f0_19_69) (C := "TorsionDeskModel") (T := tX4) (N := 20) hx hb hB lX4 hown hK hP 0 rfl rfl 19 (by decide) (hB _ zw_436) (fun _ h9 => h9) rfl d_md_structure_x_74 ?_
      by_cases g5 : (f0_19_69 < 0 ∨ 40 ≤ f0_19_69.toNatClampNeg)
      · rw [if_pos g5] at hm; cases hm
      rw [if_neg g5] at hm
      refine va_iald (pc := 77) hx hb hK hP 3 0 rfl rfl g5 d_md_structure_x_77 ?_
      refine lv_aload_n (pc := 78) hx hb d_md_structure_x_78 rfl (lv_at hl 0 rfl) ?_
      refine va_get (pc := 79) (D := D) (ci := 4) (v := .int f0_17_69) (C := "TorsionDeskModel") (T := tX4) (N := 20) hx hb hB lX4 hown hK hP 0 rfl rfl 17 (by decide) (hB _ zw_434) (fun _ h9 => h9) rfl d_md_structure_x_79 ?_
      refine lv_icmp_eq (pc := 82) (tgt := 98) hx hb d_md_structure_x_82 rfl (fun h6 => ?_) (fun h6 => ?_)
      · rw [if_pos h6] at hm
        refine lv_aload_n (pc := 98) hx hb d_md_structure_x_98 rfl (lv_at hl 0 rfl) ?_
        refine lv_iconst (pc := 99) (v := (0 : Int32)) hx hb d_md_structure_x_99 (by decide) ?_
        refine va_put (pc := 100) (D := D) (ci := 4) (v := .int (0 : Int32)) (ty := .int) (C := "TorsionDeskModel") (T := tX4) (N := 20) hx hb hB lX4 yX4 yX4_ok nX4 hown hK hP hD hS 0 rfl rfl 18 (by decide) (hB _ zw_435) (fun _ h9 => h9) rfl (by decide +kernel) rfl rfl (Nat.le_of_ble_eq_true rfl) d_md_structure_x_100 (fun H locs hP hD hS => ?_)
        have hP : va_P D vwCl [(qm, .inr (4, [.int mt, .int mh, .int ma, .int mc, .long m1, .long m2, .long m3, .long m4, .int mp, .ref qa, .ref qb, .ref qc, .int mz, .int mw, .long mx, .long my, .int f0_16_69, .int f0_17_69, .int (0 : Int32), .int f0_19_69])), (qa, .inl (cI, 40, .inl pa)), (qb, .inl (cI, 40, .inl pb)), (qc, .inl (cI, 40, .inl po))] H := hP
        have hD : va_D A [(qm, .inr (4, [.int mt, .int mh, .int ma, .int mc, .long m1, .long m2, .long m3, .long m4, .int mp, .ref qa, .ref qb, .ref qc, .int mz, .int mw, .long mx, .long my, .int f0_16_69, .int f0_17_69, .int (0 : Int32), .int f0_19_69])), (qa, .inl (cI, 40, .inl pa)), (qb, .inl (cI, 40, .inl pb)), (qc, .inl (cI, 40, .inl po))] := hD
        exact k103 f0_16_69 f0_17_69 n f0_19_69 (0 : Int32) mz mw mx my H locs ls (lv_sub hl [0] rfl) hP hD hS hm
      rw [if_neg h6] at hm
      refine lv_aload_n (pc := 85) hx hb d_md_structure_x_85 rfl (lv_at hl 0 rfl) ?_
      refine lv_dup (pc := 86) hx hb d_md_structure_x_86 rfl ?_
      refine va_get (pc := 87) (D := D) (ci := 4) (v := .int f0_19_69) (C := "TorsionDeskModel") (T := tX4) (N := 20) hx hb hB lX4 hown hK hP 0 rfl rfl 19 (by decide) (hB _ zw_436) (fun _ h9 => h9) rfl d_md_structure_x_87 ?_
      refine lv_iconst (pc := 90) (v := (1 : Int32)) hx hb d_md_structure_x_90 (by decide) ?_
      refine lv_iadd (pc := 91) hx hb d_md_structure_x_91 ?_
      refine va_put (pc := 92) (D := D) (ci := 4) (v := .int (f0_19_69 + (1 : Int32))) (ty := .int) (C := "TorsionDeskModel") (T := tX4) (N := 20) hx hb hB lX4 yX4 yX4_ok nX4 hown hK hP hD hS 0 rfl rfl 19 (by decide) (hB _ zw_436) (fun _ h9 => h9) rfl (by decide +kernel) rfl rfl (Nat.le_of_ble_eq_true rfl) d_md_structure_x_92 (fun H locs hP hD hS => ?_)
      have hP : va_P D vwCl [(qm, .inr (4, [.int mt, .int mh, .int ma, .int mc, .long m1, .long m2, .long m3, .long m4, .int mp, .ref qa, .ref qb, .ref qc, .int mz, .int mw, .long mx, .long my, .int f0_16_69, .int f0_17_69, .int mf, .int (f0_19_69 + (1 : Int32))])), (qa, .inl (cI, 40, .inl pa)), (qb, .inl (cI, 40, .inl pb)), (qc, .inl (cI, 40, .inl po))] H := hP
      have hD : va_D A [(qm, .inr (4, [.int mt, .int mh, .int ma, .int mc, .long m1, .long m2, .long m3, .long m4, .int mp, .ref qa, .ref qb, .ref qc, .int mz, .int mw, .long mx, .long my, .int f0_16_69, .int f0_17_69, .int mf, .int (f0_19_69 + (1 : Int32))])), (qa, .inl (cI, 40, .inl pa)), (qb, .inl (cI, 40, .inl pb)), (qc, .inl (cI, 40, .inl po))] := hD
      refine lv_goto (pc := 95) (tgt := 69) hx hb d_md_structure_x_95 rfl ?_
      exact ih f0_16_69 f0_17_69 (f0_19_69 + (1 : Int32)) H locs ls (lv_sub hl [0] rfl) hP hD hS hm
  have k7 : ∀ (n : Nat) (x1_7 : Int32) (f0_17_7 : Int32) (H : Heap) (locs : List Loc) (ls : Array Slot), lv_has ls 2 [(0, .ref qm), (1, .int x1_7)] → va_P D vwCl [(qm, .inr (4, [.int mt, .int mh, .int ma, .int mc, .long m1, .long m2, .long m3, .long m4, .int mp, .ref qa, .ref qb, .ref qc, .int mz, .int mw, .long mx, .long my, .int mr, .int f0_17_7, .int mf, .int ms])), (qa, .inl (cI, 40, .inl pa)), (qb, .inl (cI, 40, .inl pb)), (qc, .inl (cI, 40, .inl po))] H → va_D A [(qm, .inr (4, [.int mt, .int mh, .int ma, .int mc, .long m1, .long m2, .long m3, .long m4, .int mp, .ref qa, .ref qb, .ref qc, .int mz, .int mw, .long mx, .long my, .int mr, .int f0_17_7, .int mf, .int ms])), (qa, .inl (cI, 40, .inl pa)), (qb, .inl (cI, 40, .inl pb)), (qc, .inl (cI, 40, .inl po))] → va_S A s.heap H locs → a_md_structure_x_L7 mp mz mw m1 m2 mx my pa pb po n x1_7 f0_17_7 = some (r0, r1, r2, r3, r4, r5, r6, r7) → W p l e R s m args below meth c H locs 0 0 Q (F0 m 7 ls []) := by
    intro n
    induction n with
    | zero => intro x1_7 f0_17_7  H locs ls hl hP hD hS hm; rw [a_md_structure_x_L7] at hm; cases hm
    | succ n ih =>
      intro x1_7 f0_17_7  H locs ls hl hP hD hS hm
      rw [a_md_structure_x_L7] at hm
      refine lv_iload_n (pc := 7) hx hb d_md_structure_x_7 rfl (lv_at hl 1 rfl) ?_
      refine lv_aload_n (pc := 8) hx hb d_md_structure_x_8 rfl (lv_at hl 0 rfl) ?_
      refine va_get (pc := 9) (D := D) (ci := 4) (v := .int mp) (C := "TorsionDeskModel") (T := tX4) (N := 20) hx hb hB lX4 hown hK hP 0 rfl rfl 8 (by decide) (hB _ zw_425) (fun _ h9 => h9) rfl d_md_structure_x_9 ?_
      refine lv_icmp_ge (pc := 12) (tgt := 51) hx hb d_md_structure_x_12 rfl (fun h1 => ?_) (fun h1 => ?_)
      · rw [if_pos h1] at hm
        refine lv_aload_n (pc := 51) hx hb d_md_structure_x_51 rfl (lv_at hl 0 rfl) ?_
        refine lv_aload_n (pc := 52) hx hb d_md_structure_x_52 rfl (lv_at hl 0 rfl) ?_
        refine va_get (pc := 53) (D := D) (ci := 4) (v := .int mp) (C := "TorsionDeskModel") (T := tX4) (N := 20) hx hb hB lX4 hown hK hP 0 rfl rfl 8 (by decide) (hB _ zw_425) (fun _ h9 => h9) rfl d_md_structure_x_53 ?_
        refine lv_aload_n (pc := 56) hx hb d_md_structure_x_56 rfl (lv_at hl 0 rfl) ?_
        refine va_get (pc := 57) (D := D) (ci := 4) (v := .int f0_17_7) (C := "TorsionDeskModel") (T := tX4) (N := 20) hx hb hB lX4 hown hK hP 0 rfl rfl 17 (by decide) (hB _ zw_434) (fun _ h9 => h9) rfl d_md_structure_x_57 ?_
        by_cases g2 : f0_17_7 = 0
        · rw [if_pos g2] at hm; cases hm
        rw [if_neg g2] at hm
        refine lv_idiv (pc := 60) hx hb d_md_structure_x_60 g2 ?_
        refine va_put (pc := 61) (D := D) (ci := 4) (v := .int (mp / f0_17_7)) (ty := .int) (C := "TorsionDeskModel") (T := tX4) (N := 20) hx hb hB lX4 yX4 yX4_ok nX4 hown hK hP hD hS 0 rfl rfl 16 (by decide) (hB _ zw_433) (fun _ h9 => h9) rfl (by decide +kernel) rfl rfl (Nat.le_of_ble_eq_true rfl) d_md_structure_x_61 (fun H locs hP hD hS => ?_)
        have hP : va_P D vwCl [(qm, .inr (4, [.int mt, .int mh, .int ma, .int mc, .long m1, .long m2, .long m3, .long m4, .int mp, .ref qa, .ref qb, .ref qc, .int mz, .int mw, .long mx, .long my, .int (mp / f0_17_7), .int f0_17_7, .int mf, .int ms])), (qa, .inl (cI, 40, .inl pa)), (qb, .inl (cI, 40, .inl pb)), (qc, .inl (cI, 40, .inl po))] H := hP
        have hD : va_D A [(qm, .inr (4, [.int mt, .int mh, .int ma, .int mc, .long m1, .long m2, .long m3, .long m4, .int mp, .ref qa, .ref qb, .ref qc, .int mz, .int mw, .long mx, .long my, .int (mp / f0_17_7), .int f0_17_7, .int mf, .int ms])), (qa, .inl (cI, 40, .inl pa)), (qb, .inl (cI, 40, .inl pb)), (qc, .inl (cI, 40, .inl po))] := hD
        refine lv_aload_n (pc := 64) hx hb d_md_structure_x_64 rfl (lv_at hl 0 rfl) ?_
        refine lv_iconst (pc := 65) (v := (0 : Int32)) hx hb d_md_structure_x_65 (by decide) ?_
        refine va_put (pc := 66) (D := D) (ci := 4) (v := .int (0 : Int32)) (ty := .int) (C := "TorsionDeskModel") (T := tX4) (N := 20) hx hb hB lX4 yX4 yX4_ok nX4 hown hK hP hD hS 0 rfl rfl 19 (by decide) (hB _ zw_436) (fun _ h9 => h9) rfl (by decide +kernel) rfl rfl (Nat.le_of_ble_eq_true rfl) d_md_structure_x_66 (fun H locs hP hD hS => ?_)
        have hP : va_P D vwCl [(qm, .inr (4, [.int mt, .int mh, .int ma, .int mc, .long m1, .long m2, .long m3, .long m4, .int mp, .ref qa, .ref qb, .ref qc, .int mz, .int mw, .long mx, .long my, .int (mp / f0_17_7), .int f0_17_7, .int mf, .int (0 : Int32)])), (qa, .inl (cI, 40, .inl pa)), (qb, .inl (cI, 40, .inl pb)), (qc, .inl (cI, 40, .inl po))] H := hP
        have hD : va_D A [(qm, .inr (4, [.int mt, .int mh, .int ma, .int mc, .long m1, .long m2, .long m3, .long m4, .int mp, .ref qa, .ref qb, .ref qc, .int mz, .int mw, .long mx, .long my, .int (mp / f0_17_7), .int f0_17_7, .int mf, .int (0 : Int32)])), (qa, .inl (cI, 40, .inl pa)), (qb, .inl (cI, 40, .inl pb)), (qc, .inl (cI, 40, .inl po))] := hD
        exact k69 n (mp / f0_17_7) f0_17_7 (0 : Int32) H locs ls (lv_sub hl [0] rfl) hP hD hS hm
      rw [if_neg h1] at hm
      refine lv_aload_n (pc := 15) hx hb d_md_structure_x_15 rfl (lv_at hl 0 rfl) ?_
      refine lv_aload_n (pc := 16) hx hb d_md_structure_x_16 rfl (lv_at hl 0 rfl) ?_
      refine va_get (pc := 17) (D := D) (ci := 4) (v := .ref qc) (C := "TorsionDeskModel") (T := tX4) (N := 20) hx hb hB lX4 hown hK hP 0 rfl rfl 11 (by decide) (hB _ zw_428) (fun _ h9 => h9) rfl d_md_structure_x_17 ?_
      refine lv_iload_n (pc := 20) hx hb d_md_structure_x_20 rfl (lv_at hl 1 rfl) ?_
      by_cases g3 : (x1_7 < 0 ∨ 40 ≤ x1_7.toNatClampNeg)
      · rw [if_pos g3] at hm; cases hm
      rw [if_neg g3] at hm
      refine va_iald (pc := 21) hx hb hK hP 3 0 rfl rfl g3 d_md_structure_x_21 ?_
      refine lv_aload_n (pc := 22) hx hb d_md_structure_x_22 rfl (lv_at hl 0 rfl) ?_
      refine va_get (pc := 23) (D := D) (ci := 4) (v := .int f0_17_7) (C := "TorsionDeskModel") (T := tX4) (N := 20) hx hb hB lX4 hown hK hP 0 rfl rfl 17 (by decide) (hB _ zw_434) (fun _ h9 => h9) rfl d_md_structure_x_23 ?_
      refine lv_icmp_le (pc := 26) (tgt := 38) hx hb d_md_structure_x_26 rfl (fun h4 => ?_) (fun h4 => ?_)
      · rw [if_pos h4] at hm
        refine lv_aload_n (pc := 38) hx hb d_md_structure_x_38 rfl (lv_at hl 0 rfl) ?_
        refine va_get (pc := 39) (D := D) (ci := 4) (v := .int f0_17_7) (C := "TorsionDeskModel") (T := tX4) (N := 20) hx hb hB lX4 hown hK hP 0 rfl rfl 17 (by decide) (hB _ zw_434) (fun _ h9 => h9) rfl d_md_structure_x_39 ?_
        refine va_put (pc := 42) (D := D) (ci := 4) (v := .int f0_17_7) (ty := .int) (C := "TorsionDeskModel") (T := tX4) (N := 20) hx hb hB lX4 yX4 yX4_ok nX4 hown hK hP hD hS 0 rfl rfl 17 (by decide) (hB _ zw_434) (fun _ h9 => h9) rfl (by decide +kernel) rfl rfl (Nat.le_of_ble_eq_true rfl) d_md_structure_x_42 (fun H locs hP hD hS => ?_)
        have hP : va_P D vwCl [(qm, .inr (4, [.int mt, .int mh, .int ma, .int mc, .long m1, .long m2, .long m3, .long m4, .int mp, .ref qa, .ref qb, .ref qc, .int mz, .int mw, .long mx, .long my, .int mr, .int f0_17_7, .int mf, .int ms])), (qa, .inl (cI, 40, .inl pa)), (qb, .inl (cI, 40, .inl pb)), (qc, .inl (cI, 40, .inl po))] H := hP
        have hD : va_D A [(qm, .inr (4, [.int mt, .int mh, .int ma, .int mc, .long m1, .long m2, .long m3, .long m4, .int mp, .ref qa, .ref qb, .ref qc, .int mz, .int mw, .long mx, .long my, .int mr, .int f0_17_7, .int mf, .int ms])), (qa, .inl (cI, 40, .inl pa)), (qb, .inl (cI, 40, .inl pb)), (qc, .inl (cI, 40, .inl po))] := hD
        refine lv_iinc (pc := 45) (k := 1) (v := x1_7 + (1 : Int32)) (lv' := [(1, .int (x1_7 + (1 : Int32))), (0, .ref qm)]) hx hb d_md_structure_x_45 hl rfl (congrArg (x1_7 + ·) (by decide)) (Nat.le_of_ble_eq_true rfl) rfl (fun ls hl => ?_)
        refine lv_goto (pc := 48) (tgt := 7) hx hb d_md_structure_x_48 rfl ?_
        exact ih (x1_7 + (1 : Int32)) f0_17_7 H locs ls (lv_sub hl [1, 0] rfl) hP hD hS hm
      rw [if_neg h4] at hm
      refine lv_aload_n (pc := 29) hx hb d_md_structure_x_29 rfl (lv_at hl 0 rfl) ?_
      refine va_get (pc := 30) (D := D) (ci := 4) (v := .ref qc) (C := "TorsionDeskModel") (T := tX4) (N := 20) hx hb hB lX4 hown hK hP 0 rfl rfl 11 (by decide) (hB _ zw_428) (fun _ h9 => h9) rfl d_md_structure_x_30 ?_
      refine lv_iload_n (pc := 33) hx hb d_md_structure_x_33 rfl (lv_at hl 1 rfl) ?_
      refine va_iald (pc := 34) hx hb hK hP 3 0 rfl rfl g3 d_md_structure_x_34 ?_
      refine lv_goto (pc := 35) (tgt := 42) hx hb d_md_structure_x_35 rfl ?_
      refine va_put (pc := 42) (D := D) (ci := 4) (v := .int (po x1_7.toNatClampNeg)) (ty := .int) (C := "TorsionDeskModel") (T := tX4) (N := 20) hx hb hB lX4 yX4 yX4_ok nX4 hown hK hP hD hS 0 rfl rfl 17 (by decide) (hB _ zw_434) (fun _ h9 => h9) rfl (by decide +kernel) rfl rfl (Nat.le_of_ble_eq_true rfl) d_md_structure_x_42 (fun H locs hP hD hS => ?_)
      have hP : va_P D vwCl [(qm, .inr (4, [.int mt, .int mh, .int ma, .int mc, .long m1, .long m2, .long m3, .long m4, .int mp, .ref qa, .ref qb, .ref qc, .int mz, .int mw, .long mx, .long my, .int mr, .int (po x1_7.toNatClampNeg), .int mf, .int ms])), (qa, .inl (cI, 40, .inl pa)), (qb, .inl (cI, 40, .inl pb)), (qc, .inl (cI, 40, .inl po))] H := hP
      have hD : va_D A [(qm, .inr (4, [.int mt, .int mh, .int ma, .int mc, .long m1, .long m2, .long m3, .long m4, .int mp, .ref qa, .ref qb, .ref qc, .int mz, .int mw, .long mx, .long my, .int mr, .int (po x1_7.toNatClampNeg), .int mf, .int ms])), (qa, .inl (cI, 40, .inl pa)), (qb, .inl (cI, 40, .inl pb)), (qc, .inl (cI, 40, .inl po))] := hD
      refine lv_iinc (pc := 45) (k := 1) (v := x1_7 + (1 : Int32)) (lv' := [(1, .int (x1_7 + (1 : Int32))), (0, .ref qm)]) hx hb d_md_structure_x_45 hl rfl (congrArg (x1_7 + ·) (by decide)) (Nat.le_of_ble_eq_true rfl) rfl (fun ls hl => ?_)
      refine lv_goto (pc := 48) (tgt := 7) hx hb d_md_structure_x_48 rfl ?_
      exact ih (x1_7 + (1 : Int32)) (po x1_7.toNatClampNeg) H locs ls (lv_sub hl [1, 0] rfl) hP hD hS hm
  have main : ∀ (H : Heap) (locs : List Loc), va_P D vwCl [(qm, .inr (4, [.int mt, .int mh, .int ma, .int mc, .long m1, .long m2, .long m3, .long m4, .int mp, .ref qa, .ref qb, .ref qc, .int mz, .int mw, .long mx, .long my, .int mr, .int ml, .int mf, .int ms])), (qa, .inl (cI, 40, .inl pa)), (qb, .inl (cI, 40, .inl pb)), (qc, .inl (cI, 40, .inl po))] H → va_D A [(qm, .inr (4, [.int mt, .int mh, .int ma, .int mc, .long m1, .long m2, .long m3, .long m4, .int mp, .ref qa, .ref qb, .ref qc, .int mz, .int mw, .long mx, .long my, .int mr, .int ml, .int mf, .int ms])), (qa, .inl (cI, 40, .inl pa)), (qb, .inl (cI, 40, .inl pb)), (qc, .inl (cI, 40, .inl po))] → va_S A s.heap H locs → W p l e R s m args below meth c H locs 0 0 Q (F0 m 0 ls []) := by
    intro H locs hP hD hS
    rw [a_md_structure_x] at hm
    refine lv_aload_n (pc := 0) hx hb d_md_structure_x_0 rfl (lv_at hl 0 rfl) ?_
    refine lv_iconst (pc := 1) (v := (1 : Int32)) hx hb d_md_structure_x_1 (by decide) ?_
    refine va_put (pc := 2) (D := D) (ci := 4) (v := .int (1 : Int32)) (ty := .int) (C := "TorsionDeskModel") (T := tX4) (N := 20) hx hb hB lX4 yX4 yX4_ok nX4 hown hK hP hD hS 0 rfl rfl 17 (by decide) (hB _ zw_434) (fun _ h9 => h9) rfl (by decide +kernel) rfl rfl (Nat.le_of_ble_eq_true rfl) d_md_structure_x_2 (fun H locs hP hD hS => ?_)
    have hP : va_P D vwCl [(qm, .inr (4, [.int mt, .int mh, .int ma, .int mc, .long m1, .long m2, .long m3, .long m4, .int mp, .ref qa, .ref qb, .ref qc, .int mz, .int mw, .long mx, .long my, .int mr, .int (1 : Int32), .int mf, .int ms])), (qa, .inl (cI, 40, .inl pa)), (qb, .inl (cI, 40, .inl pb)), (qc, .inl (cI, 40, .inl po))] H := hP
    have hD : va_D A [(qm, .inr (4, [.int mt, .int mh, .int ma, .int mc, .long m1, .long m2, .long m3, .long m4, .int mp, .ref qa, .ref qb, .ref qc, .int mz, .int mw, .long mx, .long my, .int mr, .int (1 : Int32), .int mf, .int ms])), (qa, .inl (cI, 40, .inl pa)), (qb, .inl (cI, 40, .inl pb)), (qc, .inl (cI, 40, .inl po))] := hD
    refine lv_iconst (pc := 5) (v := (1 : Int32)) hx hb d_md_structure_x_5 (by decide) ?_
    refine lv_istore_n (pc := 6) (lv' := [(1, .int (1 : Int32)), (0, .ref qm)]) hx hb d_md_structure_x_6 rfl hl (Nat.le_of_ble_eq_true rfl) rfl (fun ls hl => ?_)
    exact k7 N (1 : Int32) (1 : Int32) H locs ls (lv_sub hl [1, 0] rfl) hP hD hS hm
  exact main s.heap [] hP hD hS
