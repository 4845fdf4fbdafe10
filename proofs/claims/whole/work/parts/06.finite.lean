abbrev rm_fp_has : Room := { frames := 0, cells := 0, slots := 0, locals := 0 }
def a_fp_has (fn : Int32) (i1 : Int32) : Int32 := (if i1 < 0 then (0 : Int32) else (if fn ≤ i1 then (0 : Int32) else (1 : Int32)))
set_option maxHeartbeats 4000000 in
set_option maxRecDepth 100000 in
theorem w_a_fp_has (l : Launch) (D : va_G) (cI cJ : ClassId) (qf : Nat) (qx : Nat) (qy : Nat) (qo : Nat) (fn : Int32) (xs : Nat → Int32) (ys : Nat → Int32) (os : Nat → Int32) (i1 : Int32) (r0 : Int32) (hm : a_fp_has fn i1 = r0) : Met l y_fp_has zs_fp_has rm_fp_has (zPc [.ref qf, .int i1] D [(qf, .inr (1, [.ref qx, .ref qy, .ref qo, .int fn])), (qx, .inl (cI, 32, .inl xs)), (qy, .inl (cI, 32, .inl ys)), (qo, .inl (cI, 32, .inl os))] [(cI, .int), (cJ, .long)]) (zRd (some (.int r0))) 0 0 (fun _ => False) := by
  refine zm (by decide) (Nat.le_of_ble_eq_true rfl) ?_
  intro p e s m args below meth c R Q hR hQ hargs hx hb hml hr hlocks hnm hB hown hP hK hD0 ls hl
  have hown : s.vm.findClass "TorsionDesk$FinitePoints" = some m.cls := hown
  have hl : lv_has ls 2 [(0, .ref qf), (1, .int i1)] := hl
  rw [a_fp_has] at hm
  refine lv_iload_n (pc := 0) hx hb d_fp_has_0 rfl (lv_at hl 1 rfl) ?_
  refine lv_if_lt (pc := 1) (tgt := 16) hx hb d_fp_has_1 rfl (fun h1 => ?_) (fun h1 => ?_)
  · rw [if_pos h1] at hm
    refine lv_iconst (pc := 16) (v := (0 : Int32)) hx hb d_fp_has_16 (by decide) ?_
    subst hm
    rw [hQ]
    exact W.zret (pc := 17) hx hb hr rfl (fun t ht _ => ⟨rfl, ht⟩) (fun _ h9 => nomatch h9) d_fp_has_17
  rw [if_neg h1] at hm
  refine lv_iload_n (pc := 4) hx hb d_fp_has_4 rfl (lv_at hl 1 rfl) ?_
  refine lv_aload_n (pc := 5) hx hb d_fp_has_5 rfl (lv_at hl 0 rfl) ?_
  refine va_get (pc := 6) (D := D) (ci := 1) (v := .int fn) (C := "TorsionDesk$FinitePoints") (T := tX1) (N := 4) hx hb hB lX1 hown hK hP 0 rfl rfl 3 (by decide) (hB _ zw_78) (fun _ h9 => h9) rfl d_fp_has_6 ?_
  refine lv_icmp_ge (pc := 9) (tgt := 16) hx hb d_fp_has_9 rfl (fun h2 => ?_) (fun h2 => ?_)
  · rw [if_pos h2] at hm
    refine lv_iconst (pc := 16) (v := (0 : Int32)) hx hb d_fp_has_16 (by decide) ?_
    subst hm
    rw [hQ]
    exact W.zret (pc := 17) hx hb hr rfl (fun t ht _ => ⟨rfl, ht⟩) (fun _ h9 => nomatch h9) d_fp_has_17
  rw [if_neg h2] at hm
  refine lv_iconst (pc := 12) (v := (1 : Int32)) hx hb d_fp_has_12 (by decide) ?_
  refine lv_goto (pc := 13) (tgt := 17) hx hb d_fp_has_13 rfl ?_
  subst hm
  rw [hQ]
  exact W.zret (pc := 17) hx hb hr rfl (fun t ht _ => ⟨rfl, ht⟩) (fun _ h9 => nomatch h9) d_fp_has_17
abbrev rm_fp_numberOf : Room := { frames := 0, cells := 0, slots := 0, locals := 0 }
def a_fp_numberOf_L3 (fn : Int32) (xs : Nat → Int32) (ys : Nat → Int32) (j1 : Int64) (j2 : Int64) : Nat → Int32 → Option (Int32)
  | 0, _ => none
  | n + 1, x5_3 => (if fn ≤ x5_3 then (some (-1 : Int32)) else (if (x5_3 < 0 ∨ 32 ≤ x5_3.toNatClampNeg) then none else (if ((xs x5_3.toNatClampNeg).toInt64) = j1 then (if ((ys x5_3.toNatClampNeg).toInt64) = j2 then (some x5_3) else a_fp_numberOf_L3 fn xs ys j1 j2 n (x5_3 + (1 : Int32))) else a_fp_numberOf_L3 fn xs ys j1 j2 n (x5_3 + (1 : Int32)))))
def a_fp_numberOf (N : Nat) (fn : Int32) (xs : Nat → Int32) (ys : Nat → Int32) (j1 : Int64) (j2 : Int64) : Option (Int32) := a_fp_numberOf_L3 fn xs ys j1 j2 N (1 : Int32)
set_option maxHeartbeats 4000000 in
set_option maxRecDepth 100000 in
theorem w_a_fp_numberOf (l : Launch) (D : va_G) (cI cJ : ClassId) (qf : Nat) (qx : Nat) (qy : Nat) (qo : Nat) (fn : Int32) (xs : Nat → Int32) (ys : Nat → Int32) (os : Nat → Int32) (j1 : Int64) (j2 : Int64) (N : Nat) (r0 : Int32) (hm : a_fp_numberOf N fn xs ys j1 j2 = some r0) : Met l y_fp_numberOf zs_fp_numberOf rm_fp_numberOf (zPc [.ref qf, .long j1, .long j2] D [(qf, .inr (1, [.ref qx, .ref qy, .ref qo, .int fn])), (qx, .inl (cI, 32, .inl xs)), (qy, .inl (cI, 32, .inl ys)), (qo, .inl (cI, 32, .inl os))] [(cI, .int), (cJ, .long)]) (zRd (some (.int r0))) 0 0 (fun _ => False) := by
  refine zm (by decide) (Nat.le_of_ble_eq_true rfl) ?_
  intro p e s m args below meth c R Q hR hQ hargs hx hb hml hr hlocks hnm hB hown hP hK hD0 ls hl
  have hown : s.vm.findClass "TorsionDesk$FinitePoints" = some m.cls := hown
  have hl : lv_has ls 6 [(0, .ref qf), (1, .long j1), (3, .long j2)] := hl
  have k3 : ∀ (n : Nat) (x5_3 : Int32) (ls : Array Slot), lv_has ls 6 [(0, .ref qf), (1, .long j1), (3, .long j2), (5, .int x5_3)] → a_fp_numberOf_L3 fn xs ys j1 j2 n x5_3 = some r0 → W p l e R s m args below meth c s.heap [] 0 0 Q (F0 m 3 ls []) := by
    intro n
    induction n with
    | zero => intro x5_3  ls hl hm; rw [a_fp_numberOf_L3] at hm; cases hm
    | succ n ih =>
      intro x5_3  ls hl hm
      rw [a_fp_numberOf_L3] at hm
      refine lv_iload (pc := 3) hx hb d_fp_numberOf_3 (lv_at hl 3 rfl) ?_
      refine lv_aload_n (pc := 5) hx hb d_fp_numberOf_5 rfl (lv_at hl 0 rfl) ?_
      refine va_get (pc := 6) (D := D) (ci := 1) (v := .int fn) (C := "TorsionDesk$FinitePoints") (T := tX1) (N := 4) hx hb hB lX1 hown hK hP 0 rfl rfl 3 (by decide) (hB _ zw_78) (fun _ h9 => h9) rfl d_fp_numberOf_6 ?_
      refine lv_icmp_ge (pc := 9) (tgt := 47) hx hb d_fp_numberOf_9 rfl (fun h1 => ?_) (fun h1 => ?_)
      · rw [if_pos h1] at hm
        refine lv_iconst (pc := 47) (v := (-1 : Int32)) hx hb d_fp_numberOf_47 (by decide) ?_
        cases hm
        rw [hQ]
        exact W.iret (pc := 48) hx hb hr (fun t ht _ => ⟨rfl, ht⟩) (fun _ h9 => nomatch h9) d_fp_numberOf_48
      rw [if_neg h1] at hm
      refine lv_aload_n (pc := 12) hx hb d_fp_numberOf_12 rfl (lv_at hl 0 rfl) ?_
      refine va_get (pc := 13) (D := D) (ci := 1) (v := .ref qx) (C := "TorsionDesk$FinitePoints") (T := tX1) (N := 4) hx hb hB lX1 hown hK hP 0 rfl rfl 0 (by decide) (hB _ zw_72) (fun _ h9 => h9) rfl d_fp_numberOf_13 ?_
      refine lv_iload (pc := 16) hx hb d_fp_numberOf_16 (lv_at hl 3 rfl) ?_
      by_cases g2 : (x5_3 < 0 ∨ 32 ≤ x5_3.toNatClampNeg)
      · rw [if_pos g2] at hm; cases hm
      rw [if_neg g2] at hm
      refine va_iald (pc := 18) hx hb hK hP 1 0 rfl rfl g2 d_fp_numberOf_18 ?_
      refine lv_i2l (pc := 19) hx hb d_fp_numberOf_19 rfl ?_
      refine lv_lload_n (pc := 20) hx hb d_fp_numberOf_20 rfl (lv_at hl 1 rfl) ?_
      refine zl_ne (pc := 21) (tgt := 41) hx hb d_fp_numberOf_21 d_fp_numberOf_22 rfl (fun h3 => ?_) (fun h3 => ?_)
      · rw [if_neg h3] at hm
        refine lv_iinc (pc := 41) (k := 3) (v := x5_3 + (1 : Int32)) (lv' := [(5, .int (x5_3 + (1 : Int32))), (0, .ref qf), (1, .long j1), (3, .long j2)]) hx hb d_fp_numberOf_41 hl rfl (congrArg (x5_3 + ·) (by decide)) (Nat.le_of_ble_eq_true rfl) rfl (fun ls hl => ?_)
        refine lv_goto (pc := 44) (tgt := 3) hx hb d_fp_numberOf_44 rfl ?_
        exact ih (x5_3 + (1 : Int32)) ls (lv_sub hl [1, 2, 3, 0] rfl) hm
      rw [if_pos h3] at hm
      refine lv_aload_n (pc := 25) hx hb d_fp_numberOf_25 rfl (lv_at hl 0 rfl) ?_
      refine va_get (pc := 26) (D := D) (ci := 1) (v := .ref qy) (C := "TorsionDesk$FinitePoints") (T := tX1) (N := 4) hx hb hB lX1 hown hK hP 0 rfl rfl 1 (by decide) (hB _ zw_74) (fun _ h9 => h9) rfl d_fp_numberOf_26 ?_
      refine lv_iload (pc := 29) hx hb d_fp_numberOf_29 (lv_at hl 3 rfl) ?_
      refine va_iald (pc := 31) hx hb hK hP 2 0 rfl rfl g2 d_fp_numberOf_31 ?_
      refine lv_i2l (pc := 32) hx hb d_fp_numberOf_32 rfl ?_
      refine lv_lload_n (pc := 33) hx hb d_fp_numberOf_33 rfl (lv_at hl 2 rfl) ?_
      refine zl_ne (pc := 34) (tgt := 41) hx hb d_fp_numberOf_34 d_fp_numberOf_35 rfl (fun h4 => ?_) (fun h4 => ?_)
      · rw [if_neg h4] at hm
        refine lv_iinc (pc := 41) (k := 3) (v := x5_3 + (1 : Int32)) (lv' := [(5, .int (x5_3 + (1 : Int32))), (0, .ref qf), (1, .long j1), (3, .long j2)]) hx hb d_fp_numberOf_41 hl rfl (congrArg (x5_3 + ·) (by decide)) (Nat.le_of_ble_eq_true rfl) rfl (fun ls hl => ?_)
        refine lv_goto (pc := 44) (tgt := 3) hx hb d_fp_numberOf_44 rfl ?_
        exact ih (x5_3 + (1 : Int32)) ls (lv_sub hl [1, 2, 3, 0] rfl) hm
      rw [if_pos h4] at hm
      refine lv_iload (pc := 38) hx hb d_fp_numberOf_38 (lv_at hl 3 rfl) ?_
      cases hm
      rw [hQ]
      exact W.iret (pc := 40) hx hb hr (fun t ht _ => ⟨rfl, ht⟩) (fun _ h9 => nomatch h9) d_fp_numberOf_40
  rw [a_fp_numberOf] at hm
  refine lv_iconst (pc := 0) (v := (1 : Int32)) hx hb d_fp_numberOf_0 (by decide) ?_
  refine lv_istore (pc := 1) (lv' := [(5, .int (1 : Int32)), (0, .ref qf), (1, .long j1), (3, .long j2)]) hx hb d_fp_numberOf_1 hl (Nat.le_of_ble_eq_true rfl) rfl (fun ls hl => ?_)
  exact k3 N (1 : Int32) ls (lv_sub hl [1, 2, 3, 0] rfl) hm
abbrev rm_fp_added : Room := { frames := 1, cells := 0, slots := 0, locals := 25 }
def a_fp_added (N : Nat) (fn : Int32) (xs : Nat → Int32) (ys : Nat → Int32) (sq : Int64) (li : Int64) (i2 : Int32) (i3 : Int32) : Option (Int32) := (if (a_fp_has fn i2) = 0 then (some (-1 : Int32)) else (if (a_fp_has fn i3) = 0 then (some (-1 : Int32)) else (if i2 = 0 then (some (i2 + i3)) else (if i3 = 0 then (some (i2 + i3)) else (if (i2 < 0 ∨ 32 ≤ i2.toNatClampNeg) then none else (if (i3 < 0 ∨ 32 ≤ i3.toNatClampNeg) then none else (if ((xs i3.toNatClampNeg).toInt64) = ((xs i2.toNatClampNeg).toInt64) then (if ((ys i3.toNatClampNeg).toInt64) = (-((ys i2.toNatClampNeg).toInt64)) then (some (0 : Int32)) else (if ((2 : Int64) * ((ys i2.toNatClampNeg).toInt64)) = (0 : Int64) then (some (-1 : Int32)) else (if ((2 : Int64) * ((ys i2.toNatClampNeg).toInt64)) = 0 then none else (if ((a_cu_steepnessAt sq li ((xs i2.toNatClampNeg).toInt64)) - (a_cu_steepnessAt sq li ((xs i2.toNatClampNeg).toInt64)) / ((2 : Int64) * ((ys i2.toNatClampNeg).toInt64)) * ((2 : Int64) * ((ys i2.toNatClampNeg).toInt64))) = (0 : Int64) then ((a_fp_numberOf N fn xs ys ((((((a_cu_steepnessAt sq li ((xs i2.toNatClampNeg).toInt64)) / ((2 : Int64) * ((ys i2.toNatClampNeg).toInt64))) * ((a_cu_steepnessAt sq li ((xs i2.toNatClampNeg).toInt64)) / ((2 : Int64) * ((ys i2.toNatClampNeg).toInt64)))) - sq) - ((xs i2.toNatClampNeg).toInt64)) - ((xs i3.toNatClampNeg).toInt64)) (-(((ys i2.toNatClampNeg).toInt64) + (((a_cu_steepnessAt sq li ((xs i2.toNatClampNeg).toInt64)) / ((2 : Int64) * ((ys i2.toNatClampNeg).toInt64))) * (((((((a_cu_steepnessAt sq li ((xs i2.toNatClampNeg).toInt64)) / ((2 : Int64) * ((ys i2.toNatClampNeg).toInt64))) * ((a_cu_steepnessAt sq li ((xs i2.toNatClampNeg).toInt64)) / ((2 : Int64) * ((ys i2.toNatClampNeg).toInt64)))) - sq) - ((xs i2.toNatClampNeg).toInt64)) - ((xs i3.toNatClampNeg).toInt64)) - ((xs i2.toNatClampNeg).toInt64)))))).bind (fun r_c205 => (some r_c205))) else (some (-1 : Int32)))))) else (if (((xs i3.toNatClampNeg).toInt64) - ((xs i2.toNatClampNeg).toInt64)) = (0 : Int64) then (some (-1 : Int32)) else (if (((xs i3.toNatClampNeg).toInt64) - ((xs i2.toNatClampNeg).toInt64)) = 0 then none else (if ((((ys i3.toNatClampNeg).toInt64) - ((ys i2.toNatClampNeg).toInt64)) - (((ys i3.toNatClampNeg).toInt64) - ((ys i2.toNatClampNeg).toInt64)) / (((xs i3.toNatClampNeg).toInt64) - ((xs i2.toNatClampNeg).toInt64)) * (((xs i3.toNatClampNeg).toInt64) - ((xs i2.toNatClampNeg).toInt64))) = (0 : Int64) then ((a_fp_numberOf N fn xs ys ((((((((ys i3.toNatClampNeg).toInt64) - ((ys i2.toNatClampNeg).toInt64)) / (((xs i3.toNatClampNeg).toInt64) - ((xs i2.toNatClampNeg).toInt64))) * ((((ys i3.toNatClampNeg).toInt64) - ((ys i2.toNatClampNeg).toInt64)) / (((xs i3.toNatClampNeg).toInt64) - ((xs i2.toNatClampNeg).toInt64)))) - sq) - ((xs i2.toNatClampNeg).toInt64)) - ((xs i3.toNatClampNeg).toInt64)) (-(((ys i2.toNatClampNeg).toInt64) + (((((ys i3.toNatClampNeg).toInt64) - ((ys i2.toNatClampNeg).toInt64)) / (((xs i3.toNatClampNeg).toInt64) - ((xs i2.toNatClampNeg).toInt64))) * (((((((((ys i3.toNatClampNeg).toInt64) - ((ys i2.toNatClampNeg).toInt64)) / (((xs i3.toNatClampNeg).toInt64) - ((xs i2.toNatClampNeg).toInt64))) * ((((ys i3.toNatClampNeg).toInt64) - ((ys i2.toNatClampNeg).toInt64)) / (((xs i3.toNatClampNeg).toInt64) - ((xs i2.toNatClampNeg).toInt64)))) - sq) - ((xs i2.toNatClampNeg).toInt64)) - ((xs i3.toNatClampNeg).toInt64)) - ((xs i2.toNatClampNeg).toInt64)))))).bind (fun r_c205 => (some r_c205))) else (some (-1 : Int32))))))))))))
set_option maxHeartbeats 4000000 in
set_option maxRecDepth 100000 in
theorem w_a_fp_added (l : Launch) (D : va_G) (cI cJ : ClassId) (qf : Nat) (qx : Nat) (qy : Nat) (qo : Nat) (fn : Int32) (xs : Nat → Int32) (ys : Nat → Int32) (os : Nat → Int32) (qu : Nat) (qr : Nat) (sq : Int64) (li : Int64) (co : Int64) (di : Int64) (rc : Nat → Int32) (i2 : Int32) (i3 : Int32) (N : Nat) (r0 : Int32) (hm : a_fp_added N fn xs ys sq li i2 i3 = some r0) : Met l y_fp_added zs_fp_added rm_fp_added (zPc [.ref qf, .ref qu, .int i2, .int i3] D [(qf, .inr (1, [.ref qx, .ref qy, .ref qo, .int fn])), (qx, .inl (cI, 32, .inl xs)), (qy, .inl (cI, 32, .inl ys)), (qo, .inl (cI, 32, .inl os)), (qu, .inr (0, [.long sq, .long li, .long co, .long di, .ref qr])), (qr, .inl (cI, 97, .inl rc))] [(cI, .int), (cJ, .long)]) (zRd (some (.int r0))) 0 0 (fun _ => False) := by
  refine zm (by decide) (Nat.le_of_ble_eq_true rfl) ?_
  intro p e s m args below meth c R Q hR hQ hargs hx hb hml hr hlocks hnm hB hown hP hK hD0 ls hl
  have hown : s.vm.findClass "TorsionDesk$FinitePoints" = some m.cls := hown
  have hl : lv_has ls 17 [(0, .ref qf), (1, .ref qu), (2, .int i2), (3, .int i3)] := hl
  rw [a_fp_added] at hm
  refine lv_aload_n (pc := 0) hx hb d_fp_added_0 rfl (lv_at hl 0 rfl) ?_
  refine lv_iload_n (pc := 1) hx hb d_fp_added_1 rfl (lv_at hl 2 rfl) ?_
  refine zcV (pc := 2) (As := [.int i2]) (rest := []) ⟨hx, hb, hml, hown, hB⟩ (w_a_fp_has l D cI cJ qf qx qy qo fn xs ys os i2 _ rfl) (cwV 1 hB (zgV zw_147 zw_125 zw_126 zw_4 zw_127) rfl rfl rfl (by decide +kernel) ⟨by rw [hR]; exact Nat.le_of_ble_eq_true rfl, by rw [hR]; exact Nat.le_of_ble_eq_true rfl⟩) hK (hP.sub (ws' := [(qf, .inr (1, [.ref qx, .ref qy, .ref qo, .int fn])), (qx, .inl (cI, 32, .inl xs)), (qy, .inl (cI, 32, .inl ys)), (qo, .inl (cI, 32, .inl os))]) [0, 1, 2, 3] rfl) (hD0.sub (ws' := [(qf, .inr (1, [.ref qx, .ref qy, .ref qo, .int fn])), (qx, .inl (cI, 32, .inl xs)), (qy, .inl (cI, 32, .inl ys)), (qo, .inl (cI, 32, .inl os))]) [0, 1, 2, 3] (by decide) rfl) rfl rfl rfl rfl hl.1 rfl (Nat.le_of_ble_eq_true rfl) d_fp_added_2 ⟨Nat.zero_le _, Nat.zero_le _⟩ ?_
  refine lv_if_eq (pc := 5) (tgt := 16) hx hb d_fp_added_5 rfl (fun h1 => ?_) (fun h1 => ?_)
  · rw [if_pos h1] at hm
    refine lv_iconst (pc := 16) (v := (-1 : Int32)) hx hb d_fp_added_16 (by decide) ?_
    cases hm
    rw [hQ]
    exact W.iret (pc := 17) hx hb hr (fun t ht _ => ⟨rfl, ht⟩) (fun _ h9 => nomatch h9) d_fp_added_17
  rw [if_neg h1] at hm
  refine lv_aload_n (pc := 8) hx hb d_fp_added_8 rfl (lv_at hl 0 rfl) ?_
  refine lv_iload_n (pc := 9) hx hb d_fp_added_9 rfl (lv_at hl 3 rfl) ?_
  refine zcV (pc := 10) (As := [.int i3]) (rest := []) ⟨hx, hb, hml, hown, hB⟩ (w_a_fp_has l D cI cJ qf qx qy qo fn xs ys os i3 _ rfl) (cwV 1 hB (zgV zw_147 zw_125 zw_126 zw_4 zw_127) rfl rfl rfl (by decide +kernel) ⟨by rw [hR]; exact Nat.le_of_ble_eq_true rfl, by rw [hR]; exact Nat.le_of_ble_eq_true rfl⟩) hK (hP.sub (ws' := [(qf, .inr (1, [.ref qx, .ref qy, .ref qo, .int fn])), (qx, .inl (cI, 32, .inl xs)), (qy, .inl (cI, 32, .inl ys)), (qo, .inl (cI, 32, .inl os))]) [0, 1, 2, 3] rfl) (hD0.sub (ws' := [(qf, .inr (1, [.ref qx, .ref qy, .ref qo, .int fn])), (qx, .inl (cI, 32, .inl xs)), (qy, .inl (cI, 32, .inl ys)), (qo, .inl (cI, 32, .inl os))]) [0, 1, 2, 3] (by decide) rfl) rfl rfl rfl rfl hl.1 rfl (Nat.le_of_ble_eq_true rfl) d_fp_added_10 ⟨Nat.zero_le _, Nat.zero_le _⟩ ?_
  refine lv_if_ne (pc := 13) (tgt := 18) hx hb d_fp_added_13 rfl (fun h2 => ?_) (fun h2 => ?_)
  · rw [if_neg h2] at hm
    refine lv_iload_n (pc := 18) hx hb d_fp_added_18 rfl (lv_at hl 2 rfl) ?_
    refine lv_if_eq (pc := 19) (tgt := 26) hx hb d_fp_added_19 rfl (fun h3 => ?_) (fun h3 => ?_)
    · rw [if_pos h3] at hm
      refine lv_iload_n (pc := 26) hx hb d_fp_added_26 rfl (lv_at hl 2 rfl) ?_
      refine lv_iload_n (pc := 27) hx hb d_fp_added_27 rfl (lv_at hl 3 rfl) ?_
      refine lv_iadd (pc := 28) hx hb d_fp_added_28 ?_
      cases hm
      rw [hQ]
      exact W.iret (pc := 29) hx hb hr (fun t ht _ => ⟨rfl, ht⟩) (fun _ h9 => nomatch h9) d_fp_added_29
    rw [if_neg h3] at hm
    refine lv_iload_n (pc := 22) hx hb d_fp_added_22 rfl (lv_at hl 3 rfl) ?_
    refine lv_if_ne (pc := 23) (tgt := 30) hx hb d_fp_added_23 rfl (fun h4 => ?_) (fun h4 => ?_)
    · rw [if_neg h4] at hm
      refine lv_aload_n (pc := 30) hx hb d_fp_added_30 rfl (lv_at hl 0 rfl) ?_
      refine va_get (pc := 31) (D := D) (ci := 1) (v := .ref qx) (C := "TorsionDesk$FinitePoints") (T := tX1) (N := 4) hx hb hB lX1 hown hK hP 0 rfl rfl 0 (by decide) (hB _ zw_72) (fun _ h9 => h9) rfl d_fp_added_31 ?_
      refine lv_iload_n (pc := 34) hx hb d_fp_added_34 rfl (lv_at hl 2 rfl) ?_
      by_cases g5 : (i2 < 0 ∨ 32 ≤ i2.toNatClampNeg)
      · rw [if_pos g5] at hm; cases hm
      rw [if_neg g5] at hm
      refine va_iald (pc := 35) hx hb hK hP 1 0 rfl rfl g5 d_fp_added_35 ?_
      refine lv_i2l (pc := 36) hx hb d_fp_added_36 rfl ?_
      refine lv_lstore (pc := 37) (lv' := [(4, .long ((xs i2.toNatClampNeg).toInt64)), (0, .ref qf), (1, .ref qu), (2, .int i2), (3, .int i3)]) hx hb d_fp_added_37 hl (Nat.le_of_ble_eq_true rfl) rfl (fun ls hl => ?_)
      refine lv_aload_n (pc := 39) hx hb d_fp_added_39 rfl (lv_at hl 1 rfl) ?_
      refine va_get (pc := 40) (D := D) (ci := 1) (v := .ref qy) (C := "TorsionDesk$FinitePoints") (T := tX1) (N := 4) hx hb hB lX1 hown hK hP 0 rfl rfl 1 (by decide) (hB _ zw_74) (fun _ h9 => h9) rfl d_fp_added_40 ?_
      refine lv_iload_n (pc := 43) hx hb d_fp_added_43 rfl (lv_at hl 3 rfl) ?_
      refine va_iald (pc := 44) hx hb hK hP 2 0 rfl rfl g5 d_fp_added_44 ?_
      refine lv_i2l (pc := 45) hx hb d_fp_added_45 rfl ?_
      refine lv_lstore (pc := 46) (lv' := [(6, .long ((ys i2.toNatClampNeg).toInt64)), (4, .long ((xs i2.toNatClampNeg).toInt64)), (0, .ref qf), (1, .ref qu), (2, .int i2), (3, .int i3)]) hx hb d_fp_added_46 hl (Nat.le_of_ble_eq_true rfl) rfl (fun ls hl => ?_)
      refine lv_aload_n (pc := 48) hx hb d_fp_added_48 rfl (lv_at hl 2 rfl) ?_
      refine va_get (pc := 49) (D := D) (ci := 1) (v := .ref qx) (C := "TorsionDesk$FinitePoints") (T := tX1) (N := 4) hx hb hB lX1 hown hK hP 0 rfl rfl 0 (by decide) (hB _ zw_72) (fun _ h9 => h9) rfl d_fp_added_49 ?_
      refine lv_iload_n (pc := 52) hx hb d_fp_added_52 rfl (lv_at hl 5 rfl) ?_
      by_cases g6 : (i3 < 0 ∨ 32 ≤ i3.toNatClampNeg)
      · rw [if_pos g6] at hm; cases hm
      rw [if_neg g6] at hm
      refine va_iald (pc := 53) hx hb hK hP 1 0 rfl rfl g6 d_fp_added_53 ?_
      refine lv_i2l (pc := 54) hx hb d_fp_added_54 rfl ?_
      refine lv_lload (pc := 55) hx hb d_fp_added_55 (lv_at hl 1 rfl) ?_
      refine zl_ne (pc := 57) (tgt := 65) hx hb d_fp_added_57 d_fp_added_58 rfl (fun h7 => ?_) (fun h7 => ?_)
      · rw [if_neg h7] at hm
        refine lv_iconst (pc := 65) (v := (0 : Int32)) hx hb d_fp_added_65 (by decide) ?_
        refine lv_istore (pc := 66) (lv' := [(8, .int (0 : Int32)), (6, .long ((ys i2.toNatClampNeg).toInt64)), (4, .long ((xs i2.toNatClampNeg).toInt64)), (0, .ref qf), (1, .ref qu), (2, .int i2), (3, .int i3)]) hx hb d_fp_added_66 hl (Nat.le_of_ble_eq_true rfl) rfl (fun ls hl => ?_)
        refine lv_iload (pc := 68) hx hb d_fp_added_68 (lv_at hl 0 rfl) ?_
        refine lv_if_eq (pc := 70) (tgt := 89) hx hb d_fp_added_70 rfl (fun _ => ?_) (fun h9 => absurd (by decide) h9)
        refine lv_iload (pc := 89) hx hb d_fp_added_89 (lv_at hl 0 rfl) ?_
        refine lv_if_eq (pc := 91) (tgt := 103) hx hb d_fp_added_91 rfl (fun _ => ?_) (fun h9 => absurd (by decide) h9)
        refine lv_aload_n (pc := 103) hx hb d_fp_added_103 rfl (lv_at hl 3 rfl) ?_
        refine va_get (pc := 104) (D := D) (ci := 1) (v := .ref qy) (C := "TorsionDesk$FinitePoints") (T := tX1) (N := 4) hx hb hB lX1 hown hK hP 0 rfl rfl 1 (by decide) (hB _ zw_74) (fun _ h9 => h9) rfl d_fp_added_104 ?_
        refine lv_iload_n (pc := 107) hx hb d_fp_added_107 rfl (lv_at hl 6 rfl) ?_
        refine va_iald (pc := 108) hx hb hK hP 2 0 rfl rfl g6 d_fp_added_108 ?_
        refine lv_i2l (pc := 109) hx hb d_fp_added_109 rfl ?_
        refine lv_lload (pc := 110) hx hb d_fp_added_110 (lv_at hl 1 rfl) ?_
        refine lv_lsub (pc := 112) hx hb d_fp_added_112 ?_
        refine lv_lstore (pc := 113) (lv' := [(9, .long (((ys i3.toNatClampNeg).toInt64) - ((ys i2.toNatClampNeg).toInt64))), (8, .int (0 : Int32)), (6, .long ((ys i2.toNatClampNeg).toInt64)), (4, .long ((xs i2.toNatClampNeg).toInt64)), (0, .ref qf), (1, .ref qu), (2, .int i2), (3, .int i3)]) hx hb d_fp_added_113 hl (Nat.le_of_ble_eq_true rfl) rfl (fun ls hl => ?_)
        refine lv_iload (pc := 115) hx hb d_fp_added_115 (lv_at hl 1 rfl) ?_
        refine lv_if_eq (pc := 117) (tgt := 129) hx hb d_fp_added_117 rfl (fun _ => ?_) (fun h9 => absurd (by decide) h9)
        refine lv_aload_n (pc := 129) hx hb d_fp_added_129 rfl (lv_at hl 4 rfl) ?_
        refine va_get (pc := 130) (D := D) (ci := 1) (v := .ref qx) (C := "TorsionDesk$FinitePoints") (T := tX1) (N := 4) hx hb hB lX1 hown hK hP 0 rfl rfl 0 (by decide) (hB _ zw_72) (fun _ h9 => h9) rfl d_fp_added_130 ?_
        refine lv_iload_n (pc := 133) hx hb d_fp_added_133 rfl (lv_at hl 7 rfl) ?_
        refine va_iald (pc := 134) hx hb hK hP 1 0 rfl rfl g6 d_fp_added_134 ?_
        refine lv_i2l (pc := 135) hx hb d_fp_added_135 rfl ?_
        refine lv_lload (pc := 136) hx hb d_fp_added_136 (lv_at hl 3 rfl) ?_
        refine lv_lsub (pc := 138) hx hb d_fp_added_138 ?_
        refine lv_lstore (pc := 139) (lv' := [(11, .long (((xs i3.toNatClampNeg).toInt64) - ((xs i2.toNatClampNeg).toInt64))), (9, .long (((ys i3.toNatClampNeg).toInt64) - ((ys i2.toNatClampNeg).toInt64))), (8, .int (0 : Int32)), (6, .long ((ys i2.toNatClampNeg).toInt64)), (4, .long ((xs i2.toNatClampNeg).toInt64)), (0, .ref qf), (1, .ref qu), (2, .int i2), (3, .int i3)]) hx hb d_fp_added_139 hl (Nat.le_of_ble_eq_true rfl) rfl (fun ls hl => ?_)
        refine lv_lload (pc := 141) hx hb d_fp_added_141 (lv_at hl 0 rfl) ?_
        refine lv_lconst (pc := 143) (v := (0 : Int64)) hx hb d_fp_added_143 (by decide) ?_
        refine zl_eq (pc := 144) (tgt := 158) hx hb d_fp_added_144 d_fp_added_145 rfl (fun h8 => ?_) (fun h8 => ?_)
        · rw [if_pos h8] at hm
          refine lv_iconst (pc := 158) (v := (-1 : Int32)) hx hb d_fp_added_158 (by decide) ?_
          cases hm
          rw [hQ]
          exact W.iret (pc := 159) hx hb hr (fun t ht _ => ⟨rfl, ht⟩) (fun _ h9 => nomatch h9) d_fp_added_159
        rw [if_neg h8] at hm
        refine lv_lload (pc := 148) hx hb d_fp_added_148 (lv_at hl 1 rfl) ?_
        refine lv_lload (pc := 150) hx hb d_fp_added_150 (lv_at hl 0 rfl) ?_
        by_cases g9 : (((xs i3.toNatClampNeg).toInt64) - ((xs i2.toNatClampNeg).toInt64)) = 0
        · rw [if_pos g9] at hm; cases hm
        rw [if_neg g9] at hm
        refine lv_lrem (pc := 152) hx hb d_fp_added_152 g9 ?_
        refine lv_lconst (pc := 153) (v := (0 : Int64)) hx hb d_fp_added_153 (by decide) ?_
        refine zl_eq (pc := 154) (tgt := 160) hx hb d_fp_added_154 d_fp_added_155 rfl (fun h10 => ?_) (fun h10 => ?_)
        · rw [if_pos h10] at hm
          refine lv_lload (pc := 160) hx hb d_fp_added_160 (lv_at hl 1 rfl) ?_
          refine lv_lload (pc := 162) hx hb d_fp_added_162 (lv_at hl 0 rfl) ?_
          refine lv_ldiv (pc := 164) hx hb d_fp_added_164 g9 ?_
          refine lv_lstore (pc := 165) (lv' := [(13, .long ((((ys i3.toNatClampNeg).toInt64) - ((ys i2.toNatClampNeg).toInt64)) / (((xs i3.toNatClampNeg).toInt64) - ((xs i2.toNatClampNeg).toInt64)))), (11, .long (((xs i3.toNatClampNeg).toInt64) - ((xs i2.toNatClampNeg).toInt64))), (9, .long (((ys i3.toNatClampNeg).toInt64) - ((ys i2.toNatClampNeg).toInt64))), (8, .int (0 : Int32)), (6, .long ((ys i2.toNatClampNeg).toInt64)), (4, .long ((xs i2.toNatClampNeg).toInt64)), (0, .ref qf), (1, .ref qu), (2, .int i2), (3, .int i3)]) hx hb d_fp_added_165 hl (Nat.le_of_ble_eq_true rfl) rfl (fun ls hl => ?_)
          refine lv_lload (pc := 167) hx hb d_fp_added_167 (lv_at hl 0 rfl) ?_
          refine lv_lload (pc := 169) hx hb d_fp_added_169 (lv_at hl 0 rfl) ?_
          refine lv_lmul (pc := 171) hx hb d_fp_added_171 ?_
          refine lv_aload_n (pc := 172) hx hb d_fp_added_172 rfl (lv_at hl 7 rfl) ?_
          refine va_get (pc := 173) (D := D) (ci := 0) (v := .long sq) (C := "TorsionDesk$Cubic") (T := tX0) (N := 5) hx hb hB lX0 hown hK hP 4 rfl rfl 0 (by decide) (hB _ zw_29) (fun _ h9 => h9) rfl d_fp_added_173 ?_
          refine lv_lsub (pc := 176) hx hb d_fp_added_176 ?_
          refine lv_lload (pc := 177) hx hb d_fp_added_177 (lv_at hl 5 rfl) ?_
          refine lv_lsub (pc := 179) hx hb d_fp_added_179 ?_
          refine lv_aload_n (pc := 180) hx hb d_fp_added_180 rfl (lv_at hl 6 rfl) ?_
          refine va_get (pc := 181) (D := D) (ci := 1) (v := .ref qx) (C := "TorsionDesk$FinitePoints") (T := tX1) (N := 4) hx hb hB lX1 hown hK hP 0 rfl rfl 0 (by decide) (hB _ zw_72) (fun _ h9 => h9) rfl d_fp_added_181 ?_
          refine lv_iload_n (pc := 184) hx hb d_fp_added_184 rfl (lv_at hl 9 rfl) ?_
          refine va_iald (pc := 185) hx hb hK hP 1 0 rfl rfl g6 d_fp_added_185 ?_
          refine lv_i2l (pc := 186) hx hb d_fp_added_186 rfl ?_
          refine lv_lsub (pc := 187) hx hb d_fp_added_187 ?_
          refine lv_lstore (pc := 188) (lv' := [(15, .long ((((((((ys i3.toNatClampNeg).toInt64) - ((ys i2.toNatClampNeg).toInt64)) / (((xs i3.toNatClampNeg).toInt64) - ((xs i2.toNatClampNeg).toInt64))) * ((((ys i3.toNatClampNeg).toInt64) - ((ys i2.toNatClampNeg).toInt64)) / (((xs i3.toNatClampNeg).toInt64) - ((xs i2.toNatClampNeg).toInt64)))) - sq) - ((xs i2.toNatClampNeg).toInt64)) - ((xs i3.toNatClampNeg).toInt64))), (13, .long ((((ys i3.toNatClampNeg).toInt64) - ((ys i2.toNatClampNeg).toInt64)) / (((xs i3.toNatClampNeg).toInt64) - ((xs i2.toNatClampNeg).toInt64)))), (11, .long (((xs i3.toNatClampNeg).toInt64) - ((xs i2.toNatClampNeg).toInt64))), (9, .long (((ys i3.toNatClampNeg).toInt64) - ((ys i2.toNatClampNeg).toInt64))), (8, .int (0 : Int32)), (6, .long ((ys i2.toNatClampNeg).toInt64)), (4, .long ((xs i2.toNatClampNeg).toInt64)), (0, .ref qf), (1, .ref qu), (2, .int i2), (3, .int i3)]) hx hb d_fp_added_188 hl (Nat.le_of_ble_eq_true rfl) rfl (fun ls hl => ?_)
          refine lv_aload_n (pc := 190) hx hb d_fp_added_190 rfl (lv_at hl 7 rfl) ?_
          refine lv_lload (pc := 191) hx hb d_fp_added_191 (lv_at hl 0 rfl) ?_
          refine lv_lload (pc := 193) hx hb d_fp_added_193 (lv_at hl 5 rfl) ?_
          refine lv_lload (pc := 195) hx hb d_fp_added_195 (lv_at hl 1 rfl) ?_
          refine lv_lload (pc := 197) hx hb d_fp_added_197 (lv_at hl 0 rfl) ?_
          refine lv_lload (pc := 199) hx hb d_fp_added_199 (lv_at hl 6 rfl) ?_
          refine lv_lsub (pc := 201) hx hb d_fp_added_201 ?_
          refine lv_lmul (pc := 202) hx hb d_fp_added_202 ?_
          refine lv_ladd (pc := 203) hx hb d_fp_added_203 ?_
          refine lv_lneg (pc := 204) hx hb d_fp_added_204 ?_
          obtain ⟨r_c205, c11, hm⟩ := zbind hm
          try dsimp only at hm
          refine zcV (pc := 205) (As := [.long ((((((((ys i3.toNatClampNeg).toInt64) - ((ys i2.toNatClampNeg).toInt64)) / (((xs i3.toNatClampNeg).toInt64) - ((xs i2.toNatClampNeg).toInt64))) * ((((ys i3.toNatClampNeg).toInt64) - ((ys i2.toNatClampNeg).toInt64)) / (((xs i3.toNatClampNeg).toInt64) - ((xs i2.toNatClampNeg).toInt64)))) - sq) - ((xs i2.toNatClampNeg).toInt64)) - ((xs i3.toNatClampNeg).toInt64)), .long (-(((ys i2.toNatClampNeg).toInt64) + (((((ys i3.toNatClampNeg).toInt64) - ((ys i2.toNatClampNeg).toInt64)) / (((xs i3.toNatClampNeg).toInt64) - ((xs i2.toNatClampNeg).toInt64))) * (((((((((ys i3.toNatClampNeg).toInt64) - ((ys i2.toNatClampNeg).toInt64)) / (((xs i3.toNatClampNeg).toInt64) - ((xs i2.toNatClampNeg).toInt64))) * ((((ys i3.toNatClampNeg).toInt64) - ((ys i2.toNatClampNeg).toInt64)) / (((xs i3.toNatClampNeg).toInt64) - ((xs i2.toNatClampNeg).toInt64)))) - sq) - ((xs i2.toNatClampNeg).toInt64)) - ((xs i3.toNatClampNeg).toInt64)) - ((xs i2.toNatClampNeg).toInt64)))))]) (rest := []) ⟨hx, hb, hml, hown, hB⟩ (w_a_fp_numberOf l D cI cJ qf qx qy qo fn xs ys os ((((((((ys i3.toNatClampNeg).toInt64) - ((ys i2.toNatClampNeg).toInt64)) / (((xs i3.toNatClampNeg).toInt64) - ((xs i2.toNatClampNeg).toInt64))) * ((((ys i3.toNatClampNeg).toInt64) - ((ys i2.toNatClampNeg).toInt64)) / (((xs i3.toNatClampNeg).toInt64) - ((xs i2.toNatClampNeg).toInt64)))) - sq) - ((xs i2.toNatClampNeg).toInt64)) - ((xs i3.toNatClampNeg).toInt64)) (-(((ys i2.toNatClampNeg).toInt64) + (((((ys i3.toNatClampNeg).toInt64) - ((ys i2.toNatClampNeg).toInt64)) / (((xs i3.toNatClampNeg).toInt64) - ((xs i2.toNatClampNeg).toInt64))) * (((((((((ys i3.toNatClampNeg).toInt64) - ((ys i2.toNatClampNeg).toInt64)) / (((xs i3.toNatClampNeg).toInt64) - ((xs i2.toNatClampNeg).toInt64))) * ((((ys i3.toNatClampNeg).toInt64) - ((ys i2.toNatClampNeg).toInt64)) / (((xs i3.toNatClampNeg).toInt64) - ((xs i2.toNatClampNeg).toInt64)))) - sq) - ((xs i2.toNatClampNeg).toInt64)) - ((xs i3.toNatClampNeg).toInt64)) - ((xs i2.toNatClampNeg).toInt64))))) N r_c205 c11) (cwV 2 hB (zgV zw_155 zw_136 zw_137 zw_4 zw_138) rfl rfl rfl (by decide +kernel) ⟨by rw [hR]; exact Nat.le_of_ble_eq_true rfl, by rw [hR]; exact Nat.le_of_ble_eq_true rfl⟩) hK (hP.sub (ws' := [(qf, .inr (1, [.ref qx, .ref qy, .ref qo, .int fn])), (qx, .inl (cI, 32, .inl xs)), (qy, .inl (cI, 32, .inl ys)), (qo, .inl (cI, 32, .inl os))]) [0, 1, 2, 3] rfl) (hD0.sub (ws' := [(qf, .inr (1, [.ref qx, .ref qy, .ref qo, .int fn])), (qx, .inl (cI, 32, .inl xs)), (qy, .inl (cI, 32, .inl ys)), (qo, .inl (cI, 32, .inl os))]) [0, 1, 2, 3] (by decide) rfl) rfl rfl rfl rfl hl.1 rfl (Nat.le_of_ble_eq_true rfl) d_fp_added_205 ⟨Nat.zero_le _, Nat.zero_le _⟩ ?_
          cases hm
          rw [hQ]
          exact W.iret (pc := 208) hx hb hr (fun t ht _ => ⟨rfl, ht⟩) (fun _ h9 => nomatch h9) d_fp_added_208
        rw [if_neg h10] at hm
        refine lv_iconst (pc := 158) (v := (-1 : Int32)) hx hb d_fp_added_158 (by decide) ?_
        cases hm
        rw [hQ]
        exact W.iret (pc := 159) hx hb hr (fun t ht _ => ⟨rfl, ht⟩) (fun _ h9 => nomatch h9) d_fp_added_159
      rw [if_pos h7] at hm
      refine lv_iconst (pc := 61) (v := (1 : Int32)) hx hb d_fp_added_61 (by decide) ?_
      refine lv_goto (pc := 62) (tgt := 66) hx hb d_fp_added_62 rfl ?_
      refine lv_istore (pc := 66) (lv' := [(8, .int (1 : Int32)), (6, .long ((ys i2.toNatClampNeg).toInt64)), (4, .long ((xs i2.toNatClampNeg).toInt64)), (0, .ref qf), (1, .ref qu), (2, .int i2), (3, .int i3)]) hx hb d_fp_added_66 hl (Nat.le_of_ble_eq_true rfl) rfl (fun ls hl => ?_)
      refine lv_iload (pc := 68) hx hb d_fp_added_68 (lv_at hl 0 rfl) ?_
      refine lv_if_eq (pc := 70) (tgt := 89) hx hb d_fp_added_70 rfl (fun h9 => absurd h9 (by decide)) (fun _ => ?_)
      refine lv_aload_n (pc := 73) hx hb d_fp_added_73 rfl (lv_at hl 3 rfl) ?_
      refine va_get (pc := 74) (D := D) (ci := 1) (v := .ref qy) (C := "TorsionDesk$FinitePoints") (T := tX1) (N := 4) hx hb hB lX1 hown hK hP 0 rfl rfl 1 (by decide) (hB _ zw_74) (fun _ h9 => h9) rfl d_fp_added_74 ?_
      refine lv_iload_n (pc := 77) hx hb d_fp_added_77 rfl (lv_at hl 6 rfl) ?_
      refine va_iald (pc := 78) hx hb hK hP 2 0 rfl rfl g6 d_fp_added_78 ?_
      refine lv_i2l (pc := 79) hx hb d_fp_added_79 rfl ?_
      refine lv_lload (pc := 80) hx hb d_fp_added_80 (lv_at hl 1 rfl) ?_
      refine lv_lneg (pc := 82) hx hb d_fp_added_82 ?_
      refine zl_ne (pc := 83) (tgt := 89) hx hb d_fp_added_83 d_fp_added_84 rfl (fun h12 => ?_) (fun h12 => ?_)
      · rw [if_neg h12] at hm
        refine lv_iload (pc := 89) hx hb d_fp_added_89 (lv_at hl 0 rfl) ?_
        refine lv_if_eq (pc := 91) (tgt := 103) hx hb d_fp_added_91 rfl (fun h9 => absurd h9 (by decide)) (fun _ => ?_)
        refine lv_aload_n (pc := 94) hx hb d_fp_added_94 rfl (lv_at hl 4 rfl) ?_
        refine lv_lload (pc := 95) hx hb d_fp_added_95 (lv_at hl 2 rfl) ?_
        refine zcV (pc := 97) (As := [.long ((xs i2.toNatClampNeg).toInt64)]) (rest := []) ⟨hx, hb, hml, hown, hB⟩ (w_a_cu_steepnessAt l D cI cJ qu qr sq li co di rc ((xs i2.toNatClampNeg).toInt64) _ rfl) (cwV 1 hB (zgV zw_148 zw_149 zw_150 zw_2 zw_151) rfl rfl rfl (by decide +kernel) ⟨by rw [hR]; exact Nat.le_of_ble_eq_true rfl, by rw [hR]; exact Nat.le_of_ble_eq_true rfl⟩) hK (hP.sub (ws' := [(qu, .inr (0, [.long sq, .long li, .long co, .long di, .ref qr])), (qr, .inl (cI, 97, .inl rc))]) [4, 5] rfl) (hD0.sub (ws' := [(qu, .inr (0, [.long sq, .long li, .long co, .long di, .ref qr])), (qr, .inl (cI, 97, .inl rc))]) [4, 5] (by decide) rfl) rfl rfl rfl rfl hl.1 rfl (Nat.le_of_ble_eq_true rfl) d_fp_added_97 ⟨Nat.zero_le _, Nat.zero_le _⟩ ?_
        refine lv_goto (pc := 100) (tgt := 113) hx hb d_fp_added_100 rfl ?_
        refine lv_lstore (pc := 113) (lv' := [(9, .long (a_cu_steepnessAt sq li ((xs i2.toNatClampNeg).toInt64))), (8, .int (1 : Int32)), (6, .long ((ys i2.toNatClampNeg).toInt64)), (4, .long ((xs i2.toNatClampNeg).toInt64)), (0, .ref qf), (1, .ref qu), (2, .int i2), (3, .int i3)]) hx hb d_fp_added_113 hl (Nat.le_of_ble_eq_true rfl) rfl (fun ls hl => ?_)
        refine lv_iload (pc := 115) hx hb d_fp_added_115 (lv_at hl 1 rfl) ?_
        refine lv_if_eq (pc := 117) (tgt := 129) hx hb d_fp_added_117 rfl (fun h9 => absurd h9 (by decide)) (fun _ => ?_)
        refine lv_ldc2 (pc := 120) (v := (2 : Int64)) hx hb hown (hB _ zw_154) d_fp_added_120 ?_
        refine lv_lload (pc := 123) hx hb d_fp_added_123 (lv_at hl 2 rfl) ?_
        refine lv_lmul (pc := 125) hx hb d_fp_added_125 ?_
        refine lv_goto (pc := 126) (tgt := 139) hx hb d_fp_added_126 rfl ?_
        refine lv_lstore (pc := 139) (lv' := [(11, .long ((2 : Int64) * ((ys i2.toNatClampNeg).toInt64))), (9, .long (a_cu_steepnessAt sq li ((xs i2.toNatClampNeg).toInt64))), (8, .int (1 : Int32)), (6, .long ((ys i2.toNatClampNeg).toInt64)), (4, .long ((xs i2.toNatClampNeg).toInt64)), (0, .ref qf), (1, .ref qu), (2, .int i2), (3, .int i3)]) hx hb d_fp_added_139 hl (Nat.le_of_ble_eq_true rfl) rfl (fun ls hl => ?_)
        refine lv_lload (pc := 141) hx hb d_fp_added_141 (lv_at hl 0 rfl) ?_
        refine lv_lconst (pc := 143) (v := (0 : Int64)) hx hb d_fp_added_143 (by decide) ?_
        refine zl_eq (pc := 144) (tgt := 158) hx hb d_fp_added_144 d_fp_added_145 rfl (fun h13 => ?_) (fun h13 => ?_)
        · rw [if_pos h13] at hm
          refine lv_iconst (pc := 158) (v := (-1 : Int32)) hx hb d_fp_added_158 (by decide) ?_
          cases hm
          rw [hQ]
          exact W.iret (pc := 159) hx hb hr (fun t ht _ => ⟨rfl, ht⟩) (fun _ h9 => nomatch h9) d_fp_added_159
        rw [if_neg h13] at hm
        refine lv_lload (pc := 148) hx hb d_fp_added_148 (lv_at hl 1 rfl) ?_
        refine lv_lload (pc := 150) hx hb d_fp_added_150 (lv_at hl 0 rfl) ?_
        by_cases g14 : ((2 : Int64) * ((ys i2.toNatClampNeg).toInt64)) = 0
        · rw [if_pos g14] at hm; cases hm
        rw [if_neg g14] at hm
        refine lv_lrem (pc := 152) hx hb d_fp_added_152 g14 ?_
        refine lv_lconst (pc := 153) (v := (0 : Int64)) hx hb d_fp_added_153 (by decide) ?_
        refine zl_eq (pc := 154) (tgt := 160) hx hb d_fp_added_154 d_fp_added_155 rfl (fun h15 => ?_) (fun h15 => ?_)
        · rw [if_pos h15] at hm
          refine lv_lload (pc := 160) hx hb d_fp_added_160 (lv_at hl 1 rfl) ?_
          refine lv_lload (pc := 162) hx hb d_fp_added_162 (lv_at hl 0 rfl) ?_
          refine lv_ldiv (pc := 164) hx hb d_fp_added_164 g14 ?_
          refine lv_lstore (pc := 165) (lv' := [(13, .long ((a_cu_steepnessAt sq li ((xs i2.toNatClampNeg).toInt64)) / ((2 : Int64) * ((ys i2.toNatClampNeg).toInt64)))), (11, .long ((2 : Int64) * ((ys i2.toNatClampNeg).toInt64))), (9, .long (a_cu_steepnessAt sq li ((xs i2.toNatClampNeg).toInt64))), (8, .int (1 : Int32)), (6, .long ((ys i2.toNatClampNeg).toInt64)), (4, .long ((xs i2.toNatClampNeg).toInt64)), (0, .ref qf), (1, .ref qu), (2, .int i2), (3, .int i3)]) hx hb d_fp_added_165 hl (Nat.le_of_ble_eq_true rfl) rfl (fun ls hl => ?_)
          refine lv_lload (pc := 167) hx hb d_fp_added_167 (lv_at hl 0 rfl) ?_
          refine lv_lload (pc := 169) hx hb d_fp_added_169 (lv_at hl 0 rfl) ?_
          refine lv_lmul (pc := 171) hx hb d_fp_added_171 ?_
          refine lv_aload_n (pc := 172) hx hb d_fp_added_172 rfl (lv_at hl 7 rfl) ?_
          refine va_get (pc := 173) (D := D) (ci := 0) (v := .long sq) (C := "TorsionDesk$Cubic") (T := tX0) (N := 5) hx hb hB lX0 hown hK hP 4 rfl rfl 0 (by decide) (hB _ zw_29) (fun _ h9 => h9) rfl d_fp_added_173 ?_
          refine lv_lsub (pc := 176) hx hb d_fp_added_176 ?_
          refine lv_lload (pc := 177) hx hb d_fp_added_177 (lv_at hl 5 rfl) ?_
          refine lv_lsub (pc := 179) hx hb d_fp_added_179 ?_
          refine lv_aload_n (pc := 180) hx hb d_fp_added_180 rfl (lv_at hl 6 rfl) ?_
          refine va_get (pc := 181) (D := D) (ci := 1) (v := .ref qx) (C := "TorsionDesk$FinitePoints") (T := tX1) (N := 4) hx hb hB lX1 hown hK hP 0 rfl rfl 0 (by decide) (hB _ zw_72) (fun _ h9 => h9) rfl d_fp_added_181 ?_
          refine lv_iload_n (pc := 184) hx hb d_fp_added_184 rfl (lv_at hl 9 rfl) ?_
          refine va_iald (pc := 185) hx hb hK hP 1 0 rfl rfl g6 d_fp_added_185 ?_
          refine lv_i2l (pc := 186) hx hb d_fp_added_186 rfl ?_
          refine lv_lsub (pc := 187) hx hb d_fp_added_187 ?_
          refine lv_lstore (pc := 188) (lv' := [(15, .long ((((((a_cu_steepnessAt sq li ((xs i2.toNatClampNeg).toInt64)) / ((2 : Int64) * ((ys i2.toNatClampNeg).toInt64))) * ((a_cu_steepnessAt sq li ((xs i2.toNatClampNeg).toInt64)) / ((2 : Int64) * ((ys i2.toNatClampNeg).toInt64)))) - sq) - ((xs i2.toNatClampNeg).toInt64)) - ((xs i3.toNatClampNeg).toInt64))), (13, .long ((a_cu_steepnessAt sq li ((xs i2.toNatClampNeg).toInt64)) / ((2 : Int64) * ((ys i2.toNatClampNeg).toInt64)))), (11, .long ((2 : Int64) * ((ys i2.toNatClampNeg).toInt64))), (9, .long (a_cu_steepnessAt sq li ((xs i2.toNatClampNeg).toInt64))), (8, .int (1 : Int32)), (6, .long ((ys i2.toNatClampNeg).toInt64)), (4, .long ((xs i2.toNatClampNeg).toInt64)), (0, .ref qf), (1, .ref qu), (2, .int i2), (3, .int i3)]) hx hb d_fp_added_188 hl (Nat.le_of_ble_eq_true rfl) rfl (fun ls hl => ?_)
          refine lv_aload_n (pc := 190) hx hb d_fp_added_190 rfl (lv_at hl 7 rfl) ?_
          refine lv_lload (pc := 191) hx hb d_fp_added_191 (lv_at hl 0 rfl) ?_
          refine lv_lload (pc := 193) hx hb d_fp_added_193 (lv_at hl 5 rfl) ?_
          refine lv_lload (pc := 195) hx hb d_fp_added_195 (lv_at hl 1 rfl) ?_
          refine lv_lload (pc := 197) hx hb d_fp_added_197 (lv_at hl 0 rfl) ?_
          refine lv_lload (pc := 199) hx hb d_fp_added_199 (lv_at hl 6 rfl) ?_
          refine lv_lsub (pc := 201) hx hb d_fp_added_201 ?_
          refine lv_lmul (pc := 202) hx hb d_fp_added_202 ?_
          refine lv_ladd (pc := 203) hx hb d_fp_added_203 ?_
          refine lv_lneg (pc := 204) hx hb d_fp_added_204 ?_
          obtain ⟨r_c205, c16, hm⟩ := zbind hm
          try dsimp only at hm
          refine zcV (pc := 205) (As := [.long ((((((a_cu_steepnessAt sq li ((xs i2.toNatClampNeg).toInt64)) / ((2 : Int64) * ((ys i2.toNatClampNeg).toInt64))) * ((a_cu_steepnessAt sq li ((xs i2.toNatClampNeg).toInt64)) / ((2 : Int64) * ((ys i2.toNatClampNeg).toInt64)))) - sq) - ((xs i2.toNatClampNeg).toInt64)) - ((xs i3.toNatClampNeg).toInt64)), .long (-(((ys i2.toNatClampNeg).toInt64) + (((a_cu_steepnessAt sq li ((xs i2.toNatClampNeg).toInt64)) / ((2 : Int64) * ((ys i2.toNatClampNeg).toInt64))) * (((((((a_cu_steepnessAt sq li ((xs i2.toNatClampNeg).toInt64)) / ((2 : Int64) * ((ys i2.toNatClampNeg).toInt64))) * ((a_cu_steepnessAt sq li ((xs i2.toNatClampNeg).toInt64)) / ((2 : Int64) * ((ys i2.toNatClampNeg).toInt64)))) - sq) - ((xs i2.toNatClampNeg).toInt64)) - ((xs i3.toNatClampNeg).toInt64)) - ((xs i2.toNatClampNeg).toInt64)))))]) (rest := []) ⟨hx, hb, hml, hown, hB⟩ (w_a_fp_numberOf l D cI cJ qf qx qy qo fn xs ys os ((((((a_cu_steepnessAt sq li ((xs i2.toNatClampNeg).toInt64)) / ((2 : Int64) * ((ys i2.toNatClampNeg).toInt64))) * ((a_cu_steepnessAt sq li ((xs i2.toNatClampNeg).toInt64)) / ((2 : Int64) * ((ys i2.toNatClampNeg).toInt64)))) - sq) - ((xs i2.toNatClampNeg).toInt64)) - ((xs i3.toNatClampNeg).toInt64)) (-(((ys i2.toNatClampNeg).toInt64) + (((a_cu_steepnessAt sq li ((xs i2.toNatClampNeg).toInt64)) / ((2 : Int64) * ((ys i2.toNatClampNeg).toInt64))) * (((((((a_cu_steepnessAt sq li ((xs i2.toNatClampNeg).toInt64)) / ((2 : Int64) * ((ys i2.toNatClampNeg).toInt64))) * ((a_cu_steepnessAt sq li ((xs i2.toNatClampNeg).toInt64)) / ((2 : Int64) * ((ys i2.toNatClampNeg).toInt64)))) - sq) - ((xs i2.toNatClampNeg).toInt64)) - ((xs i3.toNatClampNeg).toInt64)) - ((xs i2.toNatClampNeg).toInt64))))) N r_c205 c16) (cwV 2 hB (zgV zw_155 zw_136 zw_137 zw_4 zw_138) rfl rfl rfl (by decide +kernel) ⟨by rw [hR]; exact Nat.le_of_ble_eq_true rfl, by rw [hR]; exact Nat.le_of_ble_eq_true rfl⟩) hK (hP.sub (ws' := [(qf, .inr (1, [.ref qx, .ref qy, .ref qo, .int fn])), (qx, .inl (cI, 32, .inl xs)), (qy, .inl (cI, 32, .inl ys)), (qo, .inl (cI, 32, .inl os))]) [0, 1, 2, 3] rfl) (hD0.sub (ws' := [(qf, .inr (1, [.ref qx, .ref qy, .ref qo, .int fn])), (qx, .inl (cI, 32, .inl xs)), (qy, .inl (cI, 32, .inl ys)), (qo, .inl (cI, 32, .inl os))]) [0, 1, 2, 3] (by decide) rfl) rfl rfl rfl rfl hl.1 rfl (Nat.le_of_ble_eq_true rfl) d_fp_added_205 ⟨Nat.zero_le _, Nat.zero_le _⟩ ?_
          cases hm
          rw [hQ]
          exact W.iret (pc := 208) hx hb hr (fun t ht _ => ⟨rfl, ht⟩) (fun _ h9 => nomatch h9) d_fp_added_208
        rw [if_neg h15] at hm
        refine lv_iconst (pc := 158) (v := (-1 : Int32)) hx hb d_fp_added_158 (by decide) ?_
        cases hm
        rw [hQ]
        exact W.iret (pc := 159) hx hb hr (fun t ht _ => ⟨rfl, ht⟩) (fun _ h9 => nomatch h9) d_fp_added_159
      rw [if_pos h12] at hm
      refine lv_iconst (pc := 87) (v := (0 : Int32)) hx hb d_fp_added_87 (by decide) ?_
      cases hm
      rw [hQ]
      exact W.iret (pc := 88) hx hb hr (fun t ht _ => ⟨rfl, ht⟩) (fun _ h9 => nomatch h9) d_fp_added_88
    rw [if_pos h4] at hm
    refine lv_iload_n (pc := 26) hx hb d_fp_added_26 rfl (lv_at hl 2 rfl) ?_
    refine lv_iload_n (pc := 27) hx hb d_fp_added_27 rfl (lv_at hl 3 rfl) ?_
    refine lv_iadd (pc := 28) hx hb d_fp_added_28 ?_
    cases hm
    rw [hQ]
    exact W.iret (pc := 29) hx hb hr (fun t ht _ => ⟨rfl, ht⟩) (fun _ h9 => nomatch h9) d_fp_added_29
  rw [if_pos h2] at hm
  refine lv_iconst (pc := 16) (v := (-1 : Int32)) hx hb d_fp_added_16 (by decide) ?_
  cases hm
  rw [hQ]
  exact W.iret (pc := 17) hx hb hr (fun t ht _ => ⟨rfl, ht⟩) (fun _ h9 => nomatch h9) d_fp_added_17
abbrev rm_fp_append : Room := { frames := 0, cells := 0, slots := 0, locals := 0 }
def a_fp_append (fn : Int32) (xs : Nat → Int32) (ys : Nat → Int32) (i1 : Int32) (i2 : Int32) : Option ((Nat → Int32) × (Nat → Int32) × Int32) := (if (32 : Int32) ≤ fn then (some (xs, ys, fn)) else (if (fn < 0 ∨ 32 ≤ fn.toNatClampNeg) then none else (some (upd xs fn.toNatClampNeg i1, upd ys fn.toNatClampNeg i2, fn + (1 : Int32)))))
set_option maxHeartbeats 4000000 in
set_option maxRecDepth 100000 in
theorem w_a_fp_append (l : Launch) (D : va_G) (cI cJ : ClassId) (qf : Nat) (qx : Nat) (qy : Nat) (qo : Nat) (fn : Int32) (xs : Nat → Int32) (ys : Nat → Int32) (os : Nat → Int32) (i1 : Int32) (i2 : Int32) (r0 : Nat → Int32) (r1 : Nat → Int32) (r2 : Int32) (hm : a_fp_append fn xs ys i1 i2 = some (r0, r1, r2)) : Met l y_fp_append zs_fp_append rm_fp_append (zPc [.ref qf, .int i1, .int i2] D [(qf, .inr (1, [.ref qx, .ref qy, .ref qo, .int fn])), (qx, .inl (cI, 32, .inl xs)), (qy, .inl (cI, 32, .inl ys)), (qo, .inl (cI, 32, .inl os))] [(cI, .int), (cJ, .long)]) (zWr none D (zIn [(qf, .inr (1, [.ref qx, .ref qy, .ref qo, .int fn])), (qx, .inl (cI, 32, .inl xs)), (qy, .inl (cI, 32, .inl ys)), (qo, .inl (cI, 32, .inl os))]) [(qf, .inr (1, [.ref qx, .ref qy, .ref qo, .int r2])), (qx, .inl (cI, 32, .inl r0)), (qy, .inl (cI, 32, .inl r1)), (qo, .inl (cI, 32, .inl os))]) 0 0 (zIn [(qf, .inr (1, [.ref qx, .ref qy, .ref qo, .int fn])), (qx, .inl (cI, 32, .inl xs)), (qy, .inl (cI, 32, .inl ys)), (qo, .inl (cI, 32, .inl os))]) := by
  refine zm (by decide) (Nat.le_of_ble_eq_true rfl) ?_
  intro p e s m args below meth c R Q hR hQ hargs hx hb hml hr hlocks hnm hB hown hP hK hD0 ls hl
  have hown : s.vm.findClass "TorsionDesk$FinitePoints" = some m.cls := hown
  have hl : lv_has ls 3 [(0, .ref qf), (1, .int i1), (2, .int i2)] := hl
  obtain ⟨A, hA⟩ : ∃ A, A = zIn [(qf, .inr (1, [.ref qx, .ref qy, .ref qo, .int fn])), (qx, .inl (cI, 32, .inl xs)), (qy, .inl (cI, 32, .inl ys)), (qo, .inl (cI, 32, .inl os))] := ⟨_, rfl⟩
  have hD : va_D A [(qf, .inr (1, [.ref qx, .ref qy, .ref qo, .int fn])), (qx, .inl (cI, 32, .inl xs)), (qy, .inl (cI, 32, .inl ys)), (qo, .inl (cI, 32, .inl os))] := by rw [hA]; exact zIn_self hD0
  have hS : va_S A s.heap s.heap [] := va_S.rf
  rw [← hA] at hQ
  have main : ∀ (H : Heap) (locs : List Loc), va_P D vwCl [(qf, .inr (1, [.ref qx, .ref qy, .ref qo, .int fn])), (qx, .inl (cI, 32, .inl xs)), (qy, .inl (cI, 32, .inl ys)), (qo, .inl (cI, 32, .inl os))] H → va_D A [(qf, .inr (1, [.ref qx, .ref qy, .ref qo, .int fn])), (qx, .inl (cI, 32, .inl xs)), (qy, .inl (cI, 32, .inl ys)), (qo, .inl (cI, 32, .inl os))] → va_S A s.heap H locs → W p l e R s m args below meth c H locs 0 0 Q (F0 m 0 ls []) := by
    intro H locs hP hD hS
    rw [a_fp_append] at hm
    refine lv_aload_n (pc := 0) hx hb d_fp_append_0 rfl (lv_at hl 0 rfl) ?_
    refine va_get (pc := 1) (D := D) (ci := 1) (v := .int fn) (C := "TorsionDesk$FinitePoints") (T := tX1) (N := 4) hx hb hB lX1 hown hK hP 0 rfl rfl 3 (by decide) (hB _ zw_78) (fun _ h9 => h9) rfl d_fp_append_1 ?_
    refine lv_bipush (pc := 4) (v := (32 : Int32)) hx hb d_fp_append_4 (by decide) ?_
    refine lv_icmp_ge (pc := 6) (tgt := 39) hx hb d_fp_append_6 rfl (fun h1 => ?_) (fun h1 => ?_)
    · rw [if_pos h1] at hm
      cases hm
      rw [hQ]
      exact W.vret (pc := 39) hx hb hr (fun t ht _ => ⟨rfl, by rw [ht]; exact hP, hS.F ht⟩) hS.2.2 d_fp_append_39
    rw [if_neg h1] at hm
    refine lv_aload_n (pc := 9) hx hb d_fp_append_9 rfl (lv_at hl 0 rfl) ?_
    refine va_get (pc := 10) (D := D) (ci := 1) (v := .ref qx) (C := "TorsionDesk$FinitePoints") (T := tX1) (N := 4) hx hb hB lX1 hown hK hP 0 rfl rfl 0 (by decide) (hB _ zw_72) (fun _ h9 => h9) rfl d_fp_append_10 ?_
    refine lv_aload_n (pc := 13) hx hb d_fp_append_13 rfl (lv_at hl 0 rfl) ?_
    refine va_get (pc := 14) (D := D) (ci := 1) (v := .int fn) (C := "TorsionDesk$FinitePoints") (T := tX1) (N := 4) hx hb hB lX1 hown hK hP 0 rfl rfl 3 (by decide) (hB _ zw_78) (fun _ h9 => h9) rfl d_fp_append_14 ?_
    refine lv_iload_n (pc := 17) hx hb d_fp_append_17 rfl (lv_at hl 1 rfl) ?_
    by_cases g2 : (fn < 0 ∨ 32 ≤ fn.toNatClampNeg)
    · rw [if_pos g2] at hm; cases hm
    rw [if_neg g2] at hm
    refine va_iast (pc := 18) hx hb hK hP hD hS 1 0 rfl rfl g2 d_fp_append_18 (fun H locs hP hD hS => ?_)
    have hP : va_P D vwCl [(qf, .inr (1, [.ref qx, .ref qy, .ref qo, .int fn])), (qx, .inl (cI, 32, .inl (upd xs fn.toNatClampNeg i1))), (qy, .inl (cI, 32, .inl ys)), (qo, .inl (cI, 32, .inl os))] H := hP
    have hD : va_D A [(qf, .inr (1, [.ref qx, .ref qy, .ref qo, .int fn])), (qx, .inl (cI, 32, .inl (upd xs fn.toNatClampNeg i1))), (qy, .inl (cI, 32, .inl ys)), (qo, .inl (cI, 32, .inl os))] := hD
    refine lv_aload_n (pc := 19) hx hb d_fp_append_19 rfl (lv_at hl 0 rfl) ?_
    refine va_get (pc := 20) (D := D) (ci := 1) (v := .ref qy) (C := "TorsionDesk$FinitePoints") (T := tX1) (N := 4) hx hb hB lX1 hown hK hP 0 rfl rfl 1 (by decide) (hB _ zw_74) (fun _ h9 => h9) rfl d_fp_append_20 ?_
    refine lv_aload_n (pc := 23) hx hb d_fp_append_23 rfl (lv_at hl 0 rfl) ?_
    refine va_get (pc := 24) (D := D) (ci := 1) (v := .int fn) (C := "TorsionDesk$FinitePoints") (T := tX1) (N := 4) hx hb hB lX1 hown hK hP 0 rfl rfl 3 (by decide) (hB _ zw_78) (fun _ h9 => h9) rfl d_fp_append_24 ?_
    refine lv_iload_n (pc := 27) hx hb d_fp_append_27 rfl (lv_at hl 2 rfl) ?_
    refine va_iast (pc := 28) hx hb hK hP hD hS 2 0 rfl rfl g2 d_fp_append_28 (fun H locs hP hD hS => ?_)
    have hP : va_P D vwCl [(qf, .inr (1, [.ref qx, .ref qy, .ref qo, .int fn])), (qx, .inl (cI, 32, .inl (upd xs fn.toNatClampNeg i1))), (qy, .inl (cI, 32, .inl (upd ys fn.toNatClampNeg i2))), (qo, .inl (cI, 32, .inl os))] H := hP
    have hD : va_D A [(qf, .inr (1, [.ref qx, .ref qy, .ref qo, .int fn])), (qx, .inl (cI, 32, .inl (upd xs fn.toNatClampNeg i1))), (qy, .inl (cI, 32, .inl (upd ys fn.toNatClampNeg i2))), (qo, .inl (cI, 32, .inl os))] := hD
    refine lv_aload_n (pc := 29) hx hb d_fp_append_29 rfl (lv_at hl 0 rfl) ?_
    refine lv_dup (pc := 30) hx hb d_fp_append_30 rfl ?_
    refine va_get (pc := 31) (D := D) (ci := 1) (v := .int fn) (C := "TorsionDesk$FinitePoints") (T := tX1) (N := 4) hx hb hB lX1 hown hK hP 0 rfl rfl 3 (by decide) (hB _ zw_78) (fun _ h9 => h9) rfl d_fp_append_31 ?_
    refine lv_iconst (pc := 34) (v := (1 : Int32)) hx hb d_fp_append_34 (by decide) ?_
    refine lv_iadd (pc := 35) hx hb d_fp_append_35 ?_
    refine va_put (pc := 36) (D := D) (ci := 1) (v := .int (fn + (1 : Int32))) (ty := .int) (C := "TorsionDesk$FinitePoints") (T := tX1) (N := 4) hx hb hB lX1 yX1 yX1_ok nX1 hown hK hP hD hS 0 rfl rfl 3 (by decide) (hB _ zw_78) (fun _ h9 => h9) rfl (by decide +kernel) rfl rfl (Nat.le_of_ble_eq_true rfl) d_fp_append_36 (fun H locs hP hD hS => ?_)
    have hP : va_P D vwCl [(qf, .inr (1, [.ref qx, .ref qy, .ref qo, .int (fn + (1 : Int32))])), (qx, .inl (cI, 32, .inl (upd xs fn.toNatClampNeg i1))), (qy, .inl (cI, 32, .inl (upd ys fn.toNatClampNeg i2))), (qo, .inl (cI, 32, .inl os))] H := hP
    have hD : va_D A [(qf, .inr (1, [.ref qx, .ref qy, .ref qo, .int (fn + (1 : Int32))])), (qx, .inl (cI, 32, .inl (upd xs fn.toNatClampNeg i1))), (qy, .inl (cI, 32, .inl (upd ys fn.toNatClampNeg i2))), (qo, .inl (cI, 32, .inl os))] := hD
    cases hm
    rw [hQ]
    exact W.vret (pc := 39) hx hb hr (fun t ht _ => ⟨rfl, by rw [ht]; exact hP, hS.F ht⟩) hS.2.2 d_fp_append_39
  exact main s.heap [] hP hD hS
abbrev rm_fp_orderOf : Room := { frames := 2, cells := 0, slots := 0, locals := 61 }
def a_fp_orderOf_L5 (fn : Int32) (xs : Nat → Int32) (ys : Nat → Int32) (sq : Int64) (li : Int64) (i2 : Int32) : Nat → Int32 → Int32 → Option (Int32)
  | 0, _, _ => none
  | n + 1, x3_5, x4_5 => (if (12 : Int32) < x4_5 then (some (-1 : Int32)) else (if x3_5 = 0 then (some x4_5) else ((a_fp_added n fn xs ys sq li x3_5 i2).bind (fun r_c23 => a_fp_orderOf_L5 fn xs ys sq li i2 n r_c23 (x4_5 + (1 : Int32))))))
def a_fp_orderOf (N : Nat) (fn : Int32) (xs : Nat → Int32) (ys : Nat → Int32) (sq : Int64) (li : Int64) (i2 : Int32) : Option (Int32) := a_fp_orderOf_L5 fn xs ys sq li i2 N i2 (1 : Int32)
set_option maxHeartbeats 4000000 in
set_option maxRecDepth 100000 in
theorem w_a_fp_orderOf (l : Launch) (D : va_G) (cI cJ : ClassId) (qf : Nat) (qx : Nat) (qy : Nat) (qo : Nat) (fn : Int32) (xs : Nat → Int32) (ys : Nat → Int32) (os : Nat → Int32) (qu : Nat) (qr : Nat) (sq : Int64) (li : Int64) (co : Int64) (di : Int64) (rc : Nat → Int32) (i2 : Int32) (N : Nat) (r0 : Int32) (hm : a_fp_orderOf N fn xs ys sq li i2 = some r0) : Met l y_fp_orderOf zs_fp_orderOf rm_fp_orderOf (zPc [.ref qf, .ref qu, .int i2] D [(qf, .inr (1, [.ref qx, .ref qy, .ref qo, .int fn])), (qx, .inl (cI, 32, .inl xs)), (qy, .inl (cI, 32, .inl ys)), (qo, .inl (cI, 32, .inl os)), (qu, .inr (0, [.long sq, .long li, .long co, .long di, .ref qr])), (qr, .inl (cI, 97, .inl rc))] [(cI, .int), (cJ, .long)]) (zRd (some (.int r0))) 0 0 (fun _ => False) := by
  refine zm (by decide) (Nat.le_of_ble_eq_true rfl) ?_
  intro p e s m args below meth c R Q hR hQ hargs hx hb hml hr hlocks hnm hB hown hP hK hD0 ls hl
  have hown : s.vm.findClass "TorsionDesk$FinitePoints" = some m.cls := hown
  have hl : lv_has ls 5 [(0, .ref qf), (1, .ref qu), (2, .int i2)] := hl
  have k5 : ∀ (n : Nat) (x3_5 : Int32) (x4_5 : Int32) (ls : Array Slot), lv_has ls 5 [(0, .ref qf), (1, .ref qu), (2, .int i2), (3, .int x3_5), (4, .int x4_5)] → a_fp_orderOf_L5 fn xs ys sq li i2 n x3_5 x4_5 = some r0 → W p l e R s m args below meth c s.heap [] 0 0 Q (F0 m 5 ls []) := by
    intro n
    induction n with
    | zero => intro x3_5 x4_5  ls hl hm; rw [a_fp_orderOf_L5] at hm; cases hm
    | succ n ih =>
      intro x3_5 x4_5  ls hl hm
      rw [a_fp_orderOf_L5] at hm
      refine lv_iload (pc := 5) hx hb d_fp_orderOf_5 (lv_at hl 4 rfl) ?_
      refine lv_bipush (pc := 7) (v := (12 : Int32)) hx hb d_fp_orderOf_7 (by decide) ?_
      refine lv_icmp_gt (pc := 9) (tgt := 33) hx hb d_fp_orderOf_9 rfl (fun h1 => ?_) (fun h1 => ?_)
      · rw [if_pos h1] at hm
        refine lv_iconst (pc := 33) (v := (-1 : Int32)) hx hb d_fp_orderOf_33 (by decide) ?_
        cases hm
        rw [hQ]
        exact W.iret (pc := 34) hx hb hr (fun t ht _ => ⟨rfl, ht⟩) (fun _ h9 => nomatch h9) d_fp_orderOf_34
      rw [if_neg h1] at hm
      refine lv_iload_n (pc := 12) hx hb d_fp_orderOf_12 rfl (lv_at hl 3 rfl) ?_
      refine lv_if_ne (pc := 13) (tgt := 19) hx hb d_fp_orderOf_13 rfl (fun h2 => ?_) (fun h2 => ?_)
      · rw [if_neg h2] at hm
        refine lv_aload_n (pc := 19) hx hb d_fp_orderOf_19 rfl (lv_at hl 0 rfl) ?_
        refine lv_aload_n (pc := 20) hx hb d_fp_orderOf_20 rfl (lv_at hl 1 rfl) ?_
        refine lv_iload_n (pc := 21) hx hb d_fp_orderOf_21 rfl (lv_at hl 3 rfl) ?_
        refine lv_iload_n (pc := 22) hx hb d_fp_orderOf_22 rfl (lv_at hl 2 rfl) ?_
        obtain ⟨r_c23, c3, hm⟩ := zbind hm
        try dsimp only at hm
        refine zcV (pc := 23) (As := [.ref qu, .int x3_5, .int i2]) (rest := []) ⟨hx, hb, hml, hown, hB⟩ (w_a_fp_added l D cI cJ qf qx qy qo fn xs ys os qu qr sq li co di rc x3_5 i2 n r_c23 c3) (cwV 3 hB (zgV zw_167 zw_144 zw_145 zw_4 zw_146) rfl rfl rfl (by decide +kernel) ⟨by rw [hR]; exact Nat.le_of_ble_eq_true rfl, by rw [hR]; exact Nat.le_of_ble_eq_true rfl⟩) hK (hP.sub (ws' := [(qf, .inr (1, [.ref qx, .ref qy, .ref qo, .int fn])), (qx, .inl (cI, 32, .inl xs)), (qy, .inl (cI, 32, .inl ys)), (qo, .inl (cI, 32, .inl os)), (qu, .inr (0, [.long sq, .long li, .long co, .long di, .ref qr])), (qr, .inl (cI, 97, .inl rc))]) [0, 1, 2, 3, 4, 5] rfl) (hD0.sub (ws' := [(qf, .inr (1, [.ref qx, .ref qy, .ref qo, .int fn])), (qx, .inl (cI, 32, .inl xs)), (qy, .inl (cI, 32, .inl ys)), (qo, .inl (cI, 32, .inl os)), (qu, .inr (0, [.long sq, .long li, .long co, .long di, .ref qr])), (qr, .inl (cI, 97, .inl rc))]) [0, 1, 2, 3, 4, 5] (by decide) rfl) rfl rfl rfl rfl hl.1 rfl (Nat.le_of_ble_eq_true rfl) d_fp_orderOf_23 ⟨Nat.zero_le _, Nat.zero_le _⟩ ?_
        refine lv_istore_n (pc := 26) (lv' := [(3, .int r_c23), (0, .ref qf), (1, .ref qu), (2, .int i2), (4, .int x4_5)]) hx hb d_fp_orderOf_26 rfl hl (Nat.le_of_ble_eq_true rfl) rfl (fun ls hl => ?_)
        refine lv_iinc (pc := 27) (k := 4) (v := x4_5 + (1 : Int32)) (lv' := [(4, .int (x4_5 + (1 : Int32))), (3, .int r_c23), (0, .ref qf), (1, .ref qu), (2, .int i2)]) hx hb d_fp_orderOf_27 hl rfl (congrArg (x4_5 + ·) (by decide)) (Nat.le_of_ble_eq_true rfl) rfl (fun ls hl => ?_)
        refine lv_goto (pc := 30) (tgt := 5) hx hb d_fp_orderOf_30 rfl ?_
        exact ih r_c23 (x4_5 + (1 : Int32)) ls (lv_sub hl [2, 3, 4, 1, 0] rfl) hm
      rw [if_pos h2] at hm
      refine lv_iload (pc := 16) hx hb d_fp_orderOf_16 (lv_at hl 4 rfl) ?_
      cases hm
      rw [hQ]
      exact W.iret (pc := 18) hx hb hr (fun t ht _ => ⟨rfl, ht⟩) (fun _ h9 => nomatch h9) d_fp_orderOf_18
  rw [a_fp_orderOf] at hm
  refine lv_iload_n (pc := 0) hx hb d_fp_orderOf_0 rfl (lv_at hl 2 rfl) ?_
  refine lv_istore_n (pc := 1) (lv' := [(3, .int i2), (0, .ref qf), (1, .ref qu), (2, .int i2)]) hx hb d_fp_orderOf_1 rfl hl (Nat.le_of_ble_eq_true rfl) rfl (fun ls hl => ?_)
  refine lv_iconst (pc := 2) (v := (1 : Int32)) hx hb d_fp_orderOf_2 (by decide) ?_
  refine lv_istore (pc := 3) (lv' := [(4, .int (1 : Int32)), (3, .int i2), (0, .ref qf), (1, .ref qu), (2, .int i2)]) hx hb d_fp_orderOf_3 hl (Nat.le_of_ble_eq_true rfl) rfl (fun ls hl => ?_)
  exact k5 N i2 (1 : Int32) ls (lv_sub hl [2, 3, 4, 1, 0] rfl) hm
abbrev rm_fp_keepFinite : Room := { frames := 0, cells := 0, slots := 0, locals := 0 }
def a_fp_keepFinite_L4 (fn : Int32) : Nat → Int32 → (Nat → Int32) → (Nat → Int32) → (Nat → Int32) → Int32 → Option ((Nat → Int32) × (Nat → Int32) × (Nat → Int32) × Int32)
  | 0, _, _, _, _, _ => none
  | n + 1, x2_4, a1_4, a2_4, a3_4, x1_4 => (if fn ≤ x2_4 then (some (a1_4, a2_4, a3_4, x1_4)) else (if (x2_4 < 0 ∨ 32 ≤ x2_4.toNatClampNeg) then none else (if (a3_4 x2_4.toNatClampNeg) = (-1 : Int32) then a_fp_keepFinite_L4 fn n (x2_4 + (1 : Int32)) a1_4 a2_4 a3_4 x1_4 else (if (x1_4 < 0 ∨ 32 ≤ x1_4.toNatClampNeg) then none else a_fp_keepFinite_L4 fn n (x2_4 + (1 : Int32)) (upd a1_4 x1_4.toNatClampNeg (a1_4 x2_4.toNatClampNeg)) (upd a2_4 x1_4.toNatClampNeg (a2_4 x2_4.toNatClampNeg)) (upd a3_4 x1_4.toNatClampNeg (a3_4 x2_4.toNatClampNeg)) (x1_4 + (1 : Int32))))))
def a_fp_keepFinite (N : Nat) (fn : Int32) (xs : Nat → Int32) (ys : Nat → Int32) (os : Nat → Int32) : Option ((Nat → Int32) × (Nat → Int32) × (Nat → Int32) × Int32) := a_fp_keepFinite_L4 fn N (0 : Int32) xs ys os (0 : Int32)
set_option maxHeartbeats 4000000 in
set_option maxRecDepth 100000 in
theorem w_a_fp_keepFinite (l : Launch) (D : va_G) (cI cJ : ClassId) (qf : Nat) (qx : Nat) (qy : Nat) (qo : Nat) (fn : Int32) (xs : Nat → Int32) (ys : Nat → Int32) (os : Nat → Int32) (N : Nat) (r0 : Nat → Int32) (r1 : Nat → Int32) (r2 : Nat → Int32) (r3 : Int32) (hm : a_fp_keepFinite N fn xs ys os = some (r0, r1, r2, r3)) : Met l y_fp_keepFinite zs_fp_keepFinite rm_fp_keepFinite (zPc [.ref qf] D [(qf, .inr (1, [.ref qx, .ref qy, .ref qo, .int fn])), (qx, .inl (cI, 32, .inl xs)), (qy, .inl (cI, 32, .inl ys)), (qo, .inl (cI, 32, .inl os))] [(cI, .int), (cJ, .long)]) (zWr none D (zIn [(qf, .inr (1, [.ref qx, .ref qy, .ref qo, .int fn])), (qx, .inl (cI, 32, .inl xs)), (qy, .inl (cI, 32, .inl ys)), (qo, .inl (cI, 32, .inl os))]) [(qf, .inr (1, [.ref qx, .ref qy, .ref qo, .int r3])), (qx, .inl (cI, 32, .inl r0)), (qy, .inl (cI, 32, .inl r1)), (qo, .inl (cI, 32, .inl r2))]) 0 0 (zIn [(qf, .inr (1, [.ref qx, .ref qy, .ref qo, .int fn])), (qx, .inl (cI, 32, .inl xs)), (qy, .inl (cI, 32, .inl ys)), (qo, .inl (cI, 32, .inl os))]) := by
  refine zm (by decide) (Nat.le_of_ble_eq_true rfl) ?_
  intro p e s m args below meth c R Q hR hQ hargs hx hb hml hr hlocks hnm hB hown hP hK hD0 ls hl
  have hown : s.vm.findClass "TorsionDesk$FinitePoints" = some m.cls := hown
  have hl : lv_has ls 3 [(0, .ref qf)] := hl
  obtain ⟨A, hA⟩ : ∃ A, A = zIn [(qf, .inr (1, [.ref qx, .ref qy, .ref qo, .int fn])), (qx, .inl (cI, 32, .inl xs)), (qy, .inl (cI, 32, .inl ys)), (qo, .inl (cI, 32, .inl os))] := ⟨_, rfl⟩
  have hD : va_D A [(qf, .inr (1, [.ref qx, .ref qy, .ref qo, .int fn])), (qx, .inl (cI, 32, .inl xs)), (qy, .inl (cI, 32, .inl ys)), (qo, .inl (cI, 32, .inl os))] := by rw [hA]; exact zIn_self hD0
  have hS : va_S A s.heap s.heap [] := va_S.rf
  rw [← hA] at hQ
  have k4 : ∀ (n : Nat) (x2_4 : Int32) (a1_4 : Nat → Int32) (a2_4 : Nat → Int32) (a3_4 : Nat → Int32) (x1_4 : Int32) (H : Heap) (locs : List Loc) (ls : Array Slot), lv_has ls 3 [(0, .ref qf), (1, .int x1_4), (2, .int x2_4)] → va_P D vwCl [(qf, .inr (1, [.ref qx, .ref qy, .ref qo, .int fn])), (qx, .inl (cI, 32, .inl a1_4)), (qy, .inl (cI, 32, .inl a2_4)), (qo, .inl (cI, 32, .inl a3_4))] H → va_D A [(qf, .inr (1, [.ref qx, .ref qy, .ref qo, .int fn])), (qx, .inl (cI, 32, .inl a1_4)), (qy, .inl (cI, 32, .inl a2_4)), (qo, .inl (cI, 32, .inl a3_4))] → va_S A s.heap H locs → a_fp_keepFinite_L4 fn n x2_4 a1_4 a2_4 a3_4 x1_4 = some (r0, r1, r2, r3) → W p l e R s m args below meth c H locs 0 0 Q (F0 m 4 ls []) := by
    intro n
    induction n with
    | zero => intro x2_4 a1_4 a2_4 a3_4 x1_4  H locs ls hl hP hD hS hm; rw [a_fp_keepFinite_L4] at hm; cases hm
    | succ n ih =>
      intro x2_4 a1_4 a2_4 a3_4 x1_4  H locs ls hl hP hD hS hm
      rw [a_fp_keepFinite_L4] at hm
      refine lv_iload_n (pc := 4) hx hb d_fp_keepFinite_4 rfl (lv_at hl 2 rfl) ?_
      refine lv_aload_n (pc := 5) hx hb d_fp_keepFinite_5 rfl (lv_at hl 0 rfl) ?_
      refine va_get (pc := 6) (D := D) (ci := 1) (v := .int fn) (C := "TorsionDesk$FinitePoints") (T := tX1) (N := 4) hx hb hB lX1 hown hK hP 0 rfl rfl 3 (by decide) (hB _ zw_78) (fun _ h9 => h9) rfl d_fp_keepFinite_6 ?_
      refine lv_icmp_ge (pc := 9) (tgt := 67) hx hb d_fp_keepFinite_9 rfl (fun h1 => ?_) (fun h1 => ?_)
      · rw [if_pos h1] at hm
        refine lv_aload_n (pc := 67) hx hb d_fp_keepFinite_67 rfl (lv_at hl 0 rfl) ?_
        refine lv_iload_n (pc := 68) hx hb d_fp_keepFinite_68 rfl (lv_at hl 1 rfl) ?_
        refine va_put (pc := 69) (D := D) (ci := 1) (v := .int x1_4) (ty := .int) (C := "TorsionDesk$FinitePoints") (T := tX1) (N := 4) hx hb hB lX1 yX1 yX1_ok nX1 hown hK hP hD hS 0 rfl rfl 3 (by decide) (hB _ zw_78) (fun _ h9 => h9) rfl (by decide +kernel) rfl rfl (Nat.le_of_ble_eq_true rfl) d_fp_keepFinite_69 (fun H locs hP hD hS => ?_)
        have hP : va_P D vwCl [(qf, .inr (1, [.ref qx, .ref qy, .ref qo, .int x1_4])), (qx, .inl (cI, 32, .inl a1_4)), (qy, .inl (cI, 32, .inl a2_4)), (qo, .inl (cI, 32, .inl a3_4))] H := hP
        have hD : va_D A [(qf, .inr (1, [.ref qx, .ref qy, .ref qo, .int x1_4])), (qx, .inl (cI, 32, .inl a1_4)), (qy, .inl (cI, 32, .inl a2_4)), (qo, .inl (cI, 32, .inl a3_4))] := hD
        cases hm
        rw [hQ]
        exact W.vret (pc := 72) hx hb hr (fun t ht _ => ⟨rfl, by rw [ht]; exact hP, hS.F ht⟩) hS.2.2 d_fp_keepFinite_72
      rw [if_neg h1] at hm
      refine lv_aload_n (pc := 12) hx hb d_fp_keepFinite_12 rfl (lv_at hl 0 rfl) ?_
      refine va_get (pc := 13) (D := D) (ci := 1) (v := .ref qo) (C := "TorsionDesk$FinitePoints") (T := tX1) (N := 4) hx hb hB lX1 hown hK hP 0 rfl rfl 2 (by decide) (hB _ zw_76) (fun _ h9 => h9) rfl d_fp_keepFinite_13 ?_
      refine lv_iload_n (pc := 16) hx hb d_fp_keepFinite_16 rfl (lv_at hl 2 rfl) ?_
      by_cases g2 : (x2_4 < 0 ∨ 32 ≤ x2_4.toNatClampNeg)
      · rw [if_pos g2] at hm; cases hm
      rw [if_neg g2] at hm
      refine va_iald (pc := 17) hx hb hK hP 3 0 rfl rfl g2 d_fp_keepFinite_17 ?_
      refine lv_iconst (pc := 18) (v := (-1 : Int32)) hx hb d_fp_keepFinite_18 (by decide) ?_
      refine lv_icmp_eq (pc := 19) (tgt := 61) hx hb d_fp_keepFinite_19 rfl (fun h3 => ?_) (fun h3 => ?_)
      · rw [if_pos h3] at hm
        refine lv_iinc (pc := 61) (k := 2) (v := x2_4 + (1 : Int32)) (lv' := [(2, .int (x2_4 + (1 : Int32))), (0, .ref qf), (1, .int x1_4)]) hx hb d_fp_keepFinite_61 hl rfl (congrArg (x2_4 + ·) (by decide)) (Nat.le_of_ble_eq_true rfl) rfl (fun ls hl => ?_)
        refine lv_goto (pc := 64) (tgt := 4) hx hb d_fp_keepFinite_64 rfl ?_
        exact ih (x2_4 + (1 : Int32)) a1_4 a2_4 a3_4 x1_4 H locs ls (lv_sub hl [1, 2, 0] rfl) hP hD hS hm
      rw [if_neg h3] at hm
      refine lv_aload_n (pc := 22) hx hb d_fp_keepFinite_22 rfl (lv_at hl 0 rfl) ?_
      refine va_get (pc := 23) (D := D) (ci := 1) (v := .ref qx) (C := "TorsionDesk$FinitePoints") (T := tX1) (N := 4) hx hb hB lX1 hown hK hP 0 rfl rfl 0 (by decide) (hB _ zw_72) (fun _ h9 => h9) rfl d_fp_keepFinite_23 ?_
      refine lv_iload_n (pc := 26) hx hb d_fp_keepFinite_26 rfl (lv_at hl 1 rfl) ?_
      refine lv_aload_n (pc := 27) hx hb d_fp_keepFinite_27 rfl (lv_at hl 0 rfl) ?_
      refine va_get (pc := 28) (D := D) (ci := 1) (v := .ref qx) (C := "TorsionDesk$FinitePoints") (T := tX1) (N := 4) hx hb hB lX1 hown hK hP 0 rfl rfl 0 (by decide) (hB _ zw_72) (fun _ h9 => h9) rfl d_fp_keepFinite_28 ?_
      refine lv_iload_n (pc := 31) hx hb d_fp_keepFinite_31 rfl (lv_at hl 2 rfl) ?_
      refine va_iald (pc := 32) hx hb hK hP 1 0 rfl rfl g2 d_fp_keepFinite_32 ?_
      by_cases g4 : (x1_4 < 0 ∨ 32 ≤ x1_4.toNatClampNeg)
      · rw [if_pos g4] at hm; cases hm
      rw [if_neg g4] at hm
      refine va_iast (pc := 33) hx hb hK hP hD hS 1 0 rfl rfl g4 d_fp_keepFinite_33 (fun H locs hP hD hS => ?_)
      have hP : va_P D vwCl [(qf, .inr (1, [.ref qx, .ref qy, .ref qo, .int fn])), (qx, .inl (cI, 32, .inl (upd a1_4 x1_4.toNatClampNeg (a1_4 x2_4.toNatClampNeg)))), (qy, .inl (cI, 32, .inl a2_4)), (qo, .inl (cI, 32, .inl a3_4))] H := hP
      have hD : va_D A [(qf, .inr (1, [.ref qx, .ref qy, .ref qo, .int fn])), (qx, .inl (cI, 32, .inl (upd a1_4 x1_4.toNatClampNeg (a1_4 x2_4.toNatClampNeg)))), (qy, .inl (cI, 32, .inl a2_4)), (qo, .inl (cI, 32, .inl a3_4))] := hD
      refine lv_aload_n (pc := 34) hx hb d_fp_keepFinite_34 rfl (lv_at hl 0 rfl) ?_
      refine va_get (pc := 35) (D := D) (ci := 1) (v := .ref qy) (C := "TorsionDesk$FinitePoints") (T := tX1) (N := 4) hx hb hB lX1 hown hK hP 0 rfl rfl 1 (by decide) (hB _ zw_74) (fun _ h9 => h9) rfl d_fp_keepFinite_35 ?_
      refine lv_iload_n (pc := 38) hx hb d_fp_keepFinite_38 rfl (lv_at hl 1 rfl) ?_
      refine lv_aload_n (pc := 39) hx hb d_fp_keepFinite_39 rfl (lv_at hl 0 rfl) ?_
      refine va_get (pc := 40) (D := D) (ci := 1) (v := .ref qy) (C := "TorsionDesk$FinitePoints") (T := tX1) (N := 4) hx hb hB lX1 hown hK hP 0 rfl rfl 1 (by decide) (hB _ zw_74) (fun _ h9 => h9) rfl d_fp_keepFinite_40 ?_
      refine lv_iload_n (pc := 43) hx hb d_fp_keepFinite_43 rfl (lv_at hl 2 rfl) ?_
      refine va_iald (pc := 44) hx hb hK hP 2 0 rfl rfl g2 d_fp_keepFinite_44 ?_
      refine va_iast (pc := 45) hx hb hK hP hD hS 2 0 rfl rfl g4 d_fp_keepFinite_45 (fun H locs hP hD hS => ?_)
      have hP : va_P D vwCl [(qf, .inr (1, [.ref qx, .ref qy, .ref qo, .int fn])), (qx, .inl (cI, 32, .inl (upd a1_4 x1_4.toNatClampNeg (a1_4 x2_4.toNatClampNeg)))), (qy, .inl (cI, 32, .inl (upd a2_4 x1_4.toNatClampNeg (a2_4 x2_4.toNatClampNeg)))), (qo, .inl (cI, 32, .inl a3_4))] H := hP
      have hD : va_D A [(qf, .inr (1, [.ref qx, .ref qy, .ref qo, .int fn])), (qx, .inl (cI, 32, .inl (upd a1_4 x1_4.toNatClampNeg (a1_4 x2_4.toNatClampNeg)))), (qy, .inl (cI, 32, .inl (upd a2_4 x1_4.toNatClampNeg (a2_4 x2_4.toNatClampNeg)))), (qo, .inl (cI, 32, .inl a3_4))] := hD
      refine lv_aload_n (pc := 46) hx hb d_fp_keepFinite_46 rfl (lv_at hl 0 rfl) ?_
      refine va_get (pc := 47) (D := D) (ci := 1) (v := .ref qo) (C := "TorsionDesk$FinitePoints") (T := tX1) (N := 4) hx hb hB lX1 hown hK hP 0 rfl rfl 2 (by decide) (hB _ zw_76) (fun _ h9 => h9) rfl d_fp_keepFinite_47 ?_
      refine lv_iload_n (pc := 50) hx hb d_fp_keepFinite_50 rfl (lv_at hl 1 rfl) ?_
      refine lv_aload_n (pc := 51) hx hb d_fp_keepFinite_51 rfl (lv_at hl 0 rfl) ?_
      refine va_get (pc := 52) (D := D) (ci := 1) (v := .ref qo) (C := "TorsionDesk$FinitePoints") (T := tX1) (N := 4) hx hb hB lX1 hown hK hP 0 rfl rfl 2 (by decide) (hB _ zw_76) (fun _ h9 => h9) rfl d_fp_keepFinite_52 ?_
      refine lv_iload_n (pc := 55) hx hb d_fp_keepFinite_55 rfl (lv_at hl 2 rfl) ?_
      refine va_iald (pc := 56) hx hb hK hP 3 0 rfl rfl g2 d_fp_keepFinite_56 ?_
      refine va_iast (pc := 57) hx hb hK hP hD hS 3 0 rfl rfl g4 d_fp_keepFinite_57 (fun H locs hP hD hS => ?_)
      have hP : va_P D vwCl [(qf, .inr (1, [.ref qx, .ref qy, .ref qo, .int fn])), (qx, .inl (cI, 32, .inl (upd a1_4 x1_4.toNatClampNeg (a1_4 x2_4.toNatClampNeg)))), (qy, .inl (cI, 32, .inl (upd a2_4 x1_4.toNatClampNeg (a2_4 x2_4.toNatClampNeg)))), (qo, .inl (cI, 32, .inl (upd a3_4 x1_4.toNatClampNeg (a3_4 x2_4.toNatClampNeg))))] H := hP
      have hD : va_D A [(qf, .inr (1, [.ref qx, .ref qy, .ref qo, .int fn])), (qx, .inl (cI, 32, .inl (upd a1_4 x1_4.toNatClampNeg (a1_4 x2_4.toNatClampNeg)))), (qy, .inl (cI, 32, .inl (upd a2_4 x1_4.toNatClampNeg (a2_4 x2_4.toNatClampNeg)))), (qo, .inl (cI, 32, .inl (upd a3_4 x1_4.toNatClampNeg (a3_4 x2_4.toNatClampNeg))))] := hD
      refine lv_iinc (pc := 58) (k := 1) (v := x1_4 + (1 : Int32)) (lv' := [(1, .int (x1_4 + (1 : Int32))), (0, .ref qf), (2, .int x2_4)]) hx hb d_fp_keepFinite_58 hl rfl (congrArg (x1_4 + ·) (by decide)) (Nat.le_of_ble_eq_true rfl) rfl (fun ls hl => ?_)
      refine lv_iinc (pc := 61) (k := 2) (v := x2_4 + (1 : Int32)) (lv' := [(2, .int (x2_4 + (1 : Int32))), (1, .int (x1_4 + (1 : Int32))), (0, .ref qf)]) hx hb d_fp_keepFinite_61 hl rfl (congrArg (x2_4 + ·) (by decide)) (Nat.le_of_ble_eq_true rfl) rfl (fun ls hl => ?_)
      refine lv_goto (pc := 64) (tgt := 4) hx hb d_fp_keepFinite_64 rfl ?_
      exact ih (x2_4 + (1 : Int32)) (upd a1_4 x1_4.toNatClampNeg (a1_4 x2_4.toNatClampNeg)) (upd a2_4 x1_4.toNatClampNeg (a2_4 x2_4.toNatClampNeg)) (upd a3_4 x1_4.toNatClampNeg (a3_4 x2_4.toNatClampNeg)) (x1_4 + (1 : Int32)) H locs ls (lv_sub hl [2, 1, 0] rfl) hP hD hS hm
  have main : ∀ (H : Heap) (locs : List Loc), va_P D vwCl [(qf, .inr (1, [.ref qx, .ref qy, .ref qo, .int fn])), (qx, .inl (cI, 32, .inl xs)), (qy, .inl (cI, 32, .inl ys)), (qo, .inl (cI, 32, .inl os))] H → va_D A [(qf, .inr (1, [.ref qx, .ref qy, .ref qo, .int fn])), (qx, .inl (cI, 32, .inl xs)), (qy, .inl (cI, 32, .inl ys)), (qo, .inl (cI, 32, .inl os))] → va_S A s.heap H locs → W p l e R s m args below meth c H locs 0 0 Q (F0 m 0 ls []) := by
    intro H locs hP hD hS
    rw [a_fp_keepFinite] at hm
    refine lv_iconst (pc := 0) (v := (0 : Int32)) hx hb d_fp_keepFinite_0 (by decide) ?_
    refine lv_istore_n (pc := 1) (lv' := [(1, .int (0 : Int32)), (0, .ref qf)]) hx hb d_fp_keepFinite_1 rfl hl (Nat.le_of_ble_eq_true rfl) rfl (fun ls hl => ?_)
    refine lv_iconst (pc := 2) (v := (0 : Int32)) hx hb d_fp_keepFinite_2 (by decide) ?_
    refine lv_istore_n (pc := 3) (lv' := [(2, .int (0 : Int32)), (1, .int (0 : Int32)), (0, .ref qf)]) hx hb d_fp_keepFinite_3 rfl hl (Nat.le_of_ble_eq_true rfl) rfl (fun ls hl => ?_)
    exact k4 N (0 : Int32) xs ys os (0 : Int32) H locs ls (lv_sub hl [2, 1, 0] rfl) hP hD hS hm
  exact main s.heap [] hP hD hS
abbrev rm_fp_collect : Room := { frames := 1, cells := 0, slots := 0, locals := 23 }
def a_fp_collect_L14 (sq : Int64) (li : Int64) (co : Int64) (dn : Int32) (dq : Int64) (dr : Nat → Int32) : Nat → Int32 → (Nat → Int32) → (Nat → Int32) → Int32 → Option ((Nat → Int32) × (Nat → Int32) × Int32)
  | 0, _, _, _, _ => none
  | n + 1, x3_14, a1_14, a2_14, f0_3_14 => (if (1000 : Int32) < x3_14 then (some (a1_14, a2_14, f0_3_14)) else (if x3_14 < (23 : Int32) then (if (a_cu_valueAt sq li co x3_14.toInt64) = (0 : Int64) then ((a_fp_append f0_3_14 a1_14 a2_14 x3_14 (0 : Int32)).bind (fun (o1_c58, o2_c58, o0_3_c58) => ((a_sd_rootOf n dn dq dr (a_cu_valueAt sq li co x3_14.toInt64)).bind (fun r_c64 => (if r_c64 = (-1 : Int32) then a_fp_collect_L14 sq li co dn dq dr n (x3_14 + (1 : Int32)) o1_c58 o2_c58 o0_3_c58 else ((a_fp_append o0_3_c58 o1_c58 o2_c58 x3_14 (-r_c64)).bind (fun (o1_c80, o2_c80, o0_3_c80) => ((a_fp_append o0_3_c80 o1_c80 o2_c80 x3_14 r_c64).bind (fun (o1_c87, o2_c87, o0_3_c87) => a_fp_collect_L14 sq li co dn dq dr n (x3_14 + (1 : Int32)) o1_c87 o2_c87 o0_3_c87))))))))) else ((a_sd_rootOf n dn dq dr (a_cu_valueAt sq li co x3_14.toInt64)).bind (fun r_c64 => (if r_c64 = (-1 : Int32) then a_fp_collect_L14 sq li co dn dq dr n (x3_14 + (1 : Int32)) a1_14 a2_14 f0_3_14 else ((a_fp_append f0_3_14 a1_14 a2_14 x3_14 (-r_c64)).bind (fun (o1_c80, o2_c80, o0_3_c80) => ((a_fp_append o0_3_c80 o1_c80 o2_c80 x3_14 r_c64).bind (fun (o1_c87, o2_c87, o0_3_c87) => a_fp_collect_L14 sq li co dn dq dr n (x3_14 + (1 : Int32)) o1_c87 o2_c87 o0_3_c87)))))))) else (if (a_cu_valueAt sq li co x3_14.toInt64) ≤ dq then (if (a_cu_valueAt sq li co x3_14.toInt64) = (0 : Int64) then ((a_fp_append f0_3_14 a1_14 a2_14 x3_14 (0 : Int32)).bind (fun (o1_c58, o2_c58, o0_3_c58) => ((a_sd_rootOf n dn dq dr (a_cu_valueAt sq li co x3_14.toInt64)).bind (fun r_c64 => (if r_c64 = (-1 : Int32) then a_fp_collect_L14 sq li co dn dq dr n (x3_14 + (1 : Int32)) o1_c58 o2_c58 o0_3_c58 else ((a_fp_append o0_3_c58 o1_c58 o2_c58 x3_14 (-r_c64)).bind (fun (o1_c80, o2_c80, o0_3_c80) => ((a_fp_append o0_3_c80 o1_c80 o2_c80 x3_14 r_c64).bind (fun (o1_c87, o2_c87, o0_3_c87) => a_fp_collect_L14 sq li co dn dq dr n (x3_14 + (1 : Int32)) o1_c87 o2_c87 o0_3_c87))))))))) else ((a_sd_rootOf n dn dq dr (a_cu_valueAt sq li co x3_14.toInt64)).bind (fun r_c64 => (if r_c64 = (-1 : Int32) then a_fp_collect_L14 sq li co dn dq dr n (x3_14 + (1 : Int32)) a1_14 a2_14 f0_3_14 else ((a_fp_append f0_3_14 a1_14 a2_14 x3_14 (-r_c64)).bind (fun (o1_c80, o2_c80, o0_3_c80) => ((a_fp_append o0_3_c80 o1_c80 o2_c80 x3_14 r_c64).bind (fun (o1_c87, o2_c87, o0_3_c87) => a_fp_collect_L14 sq li co dn dq dr n (x3_14 + (1 : Int32)) o1_c87 o2_c87 o0_3_c87)))))))) else (some (a1_14, a2_14, f0_3_14)))))
def a_fp_collect (N : Nat) (xs : Nat → Int32) (ys : Nat → Int32) (sq : Int64) (li : Int64) (co : Int64) (dn : Int32) (dq : Int64) (dr : Nat → Int32) : Option ((Nat → Int32) × (Nat → Int32) × Int32) := ((a_fp_append (0 : Int32) xs ys (0 : Int32) (0 : Int32)).bind (fun (o1_c8, o2_c8, o0_3_c8) => a_fp_collect_L14 sq li co dn dq dr N (-70 : Int32) o1_c8 o2_c8 o0_3_c8))
set_option maxHeartbeats 4000000 in
set_option maxRecDepth 100000 in
theorem w_a_fp_collect (l : Launch) (D : va_G) (cI cJ : ClassId) (qf : Nat) (qx : Nat) (qy : Nat) (qo : Nat) (fn : Int32) (xs : Nat → Int32) (ys : Nat → Int32) (os : Nat → Int32) (qu : Nat) (qr : Nat) (sq : Int64) (li : Int64) (co : Int64) (di : Int64) (rc : Nat → Int32) (qd : Nat) (qw : Nat) (dn : Int32) (dq : Int64) (dr : Nat → Int32) (N : Nat) (r0 : Nat → Int32) (r1 : Nat → Int32) (r2 : Int32) (hm : a_fp_collect N xs ys sq li co dn dq dr = some (r0, r1, r2)) : Met l y_fp_collect zs_fp_collect rm_fp_collect (zPc [.ref qf, .ref qu, .ref qd] D [(qf, .inr (1, [.ref qx, .ref qy, .ref qo, .int fn])), (qx, .inl (cI, 32, .inl xs)), (qy, .inl (cI, 32, .inl ys)), (qo, .inl (cI, 32, .inl os)), (qu, .inr (0, [.long sq, .long li, .long co, .long di, .ref qr])), (qr, .inl (cI, 97, .inl rc)), (qd, .inr (2, [.ref qw, .int dn, .long dq])), (qw, .inl (cI, 64, .inl dr))] [(cI, .int), (cJ, .long)]) (zWr none D (zIn [(qf, .inr (1, [.ref qx, .ref qy, .ref qo, .int fn])), (qx, .inl (cI, 32, .inl xs)), (qy, .inl (cI, 32, .inl ys)), (qo, .inl (cI, 32, .inl os)), (qu, .inr (0, [.long sq, .long li, .long co, .long di, .ref qr])), (qr, .inl (cI, 97, .inl rc)), (qd, .inr (2, [.ref qw, .int dn, .long dq])), (qw, .inl (cI, 64, .inl dr))]) [(qf, .inr (1, [.ref qx, .ref qy, .ref qo, .int r2])), (qx, .inl (cI, 32, .inl r0)), (qy, .inl (cI, 32, .inl r1)), (qo, .inl (cI, 32, .inl os)), (qu, .inr (0, [.long sq, .long li, .long co, .long di, .ref qr])), (qr, .inl (cI, 97, .inl rc)), (qd, .inr (2, [.ref qw, .int dn, .long dq])), (qw, .inl (cI, 64, .inl dr))]) 0 0 (zIn [(qf, .inr (1, [.ref qx, .ref qy, .ref qo, .int fn])), (qx, .inl (cI, 32, .inl xs)), (qy, .inl (cI, 32, .inl ys)), (qo, .inl (cI, 32, .inl os)), (qu, .inr (0, [.long sq, .long li, .long co, .long di, .ref qr])), (qr, .inl (cI, 97, .inl rc)), (qd, .inr (2, [.ref qw, .int dn, .long dq])), (qw, .inl (cI, 64, .inl dr))]) := by
  refine zm (by decide) (Nat.le_of_ble_eq_true rfl) ?_
  intro p e s m args below meth c R Q hR hQ hargs hx hb hml hr hlocks hnm hB hown hP hK hD0 ls hl
  have hown : s.vm.findClass "TorsionDesk$FinitePoints" = some m.cls := hown
  have hl : lv_has ls 7 [(0, .ref qf), (1, .ref qu), (2, .ref qd)] := hl
  obtain ⟨A, hA⟩ : ∃ A, A = zIn [(qf, .inr (1, [.ref qx, .ref qy, .ref qo, .int fn])), (qx, .inl (cI, 32, .inl xs)), (qy, .inl (cI, 32, .inl ys)), (qo, .inl (cI, 32, .inl os)), (qu, .inr (0, [.long sq, .long li, .long co, .long di, .ref qr])), (qr, .inl (cI, 97, .inl rc)), (qd, .inr (2, [.ref qw, .int dn, .long dq])), (qw, .inl (cI, 64, .inl dr))] := ⟨_, rfl⟩
  have hD : va_D A [(qf, .inr (1, [.ref qx, .ref qy, .ref qo, .int fn])), (qx, .inl (cI, 32, .inl xs)), (qy, .inl (cI, 32, .inl ys)), (qo, .inl (cI, 32, .inl os)), (qu, .inr (0, [.long sq, .long li, .long co, .long di, .ref qr])), (qr, .inl (cI, 97, .inl rc)), (qd, .inr (2, [.ref qw, .int dn, .long dq])), (qw, .inl (cI, 64, .inl dr))] := by rw [hA]; exact zIn_self hD0
  have hS : va_S A s.heap s.heap [] := va_S.rf
  rw [← hA] at hQ
  have k14 : ∀ (n : Nat) (x3_14 : Int32) (a1_14 : Nat → Int32) (a2_14 : Nat → Int32) (f0_3_14 : Int32) (H : Heap) (locs : List Loc) (ls : Array Slot), lv_has ls 7 [(0, .ref qf), (1, .ref qu), (2, .ref qd), (3, .int x3_14)] → va_P D vwCl [(qf, .inr (1, [.ref qx, .ref qy, .ref qo, .int f0_3_14])), (qx, .inl (cI, 32, .inl a1_14)), (qy, .inl (cI, 32, .inl a2_14)), (qo, .inl (cI, 32, .inl os)), (qu, .inr (0, [.long sq, .long li, .long co, .long di, .ref qr])), (qr, .inl (cI, 97, .inl rc)), (qd, .inr (2, [.ref qw, .int dn, .long dq])), (qw, .inl (cI, 64, .inl dr))] H → va_D A [(qf, .inr (1, [.ref qx, .ref qy, .ref qo, .int f0_3_14])), (qx, .inl (cI, 32, .inl a1_14)), (qy, .inl (cI, 32, .inl a2_14)), (qo, .inl (cI, 32, .inl os)), (qu, .inr (0, [.long sq, .long li, .long co, .long di, .ref qr])), (qr, .inl (cI, 97, .inl rc)), (qd, .inr (2, [.ref qw, .int dn, .long dq])), (qw, .inl (cI, 64, .inl dr))] → va_S A s.heap H locs → a_fp_collect_L14 sq li co dn dq dr n x3_14 a1_14 a2_14 f0_3_14 = some (r0, r1, r2) → W p l e R s m args below meth c H locs 0 0 Q (F0 m 14 ls []) := by
    intro n
    induction n with
    | zero => intro x3_14 a1_14 a2_14 f0_3_14  H locs ls hl hP hD hS hm; rw [a_fp_collect_L14] at hm; cases hm
    | succ n ih =>
      intro x3_14 a1_14 a2_14 f0_3_14  H locs ls hl hP hD hS hm
      rw [a_fp_collect_L14] at hm
      refine lv_iload_n (pc := 14) hx hb d_fp_collect_14 rfl (lv_at hl 3 rfl) ?_
      refine lv_sipush (pc := 15) (v := (1000 : Int32)) hx hb d_fp_collect_15 (by decide) ?_
      refine lv_icmp_gt (pc := 18) (tgt := 96) hx hb d_fp_collect_18 rfl (fun h1 => ?_) (fun h1 => ?_)
      · rw [if_pos h1] at hm
        cases hm
        rw [hQ]
        exact W.vret (pc := 96) hx hb hr (fun t ht _ => ⟨rfl, by rw [ht]; exact hP, hS.F ht⟩) hS.2.2 d_fp_collect_96
      rw [if_neg h1] at hm
      refine lv_aload_n (pc := 21) hx hb d_fp_collect_21 rfl (lv_at hl 1 rfl) ?_
      refine lv_iload_n (pc := 22) hx hb d_fp_collect_22 rfl (lv_at hl 3 rfl) ?_
      refine lv_i2l (pc := 23) hx hb d_fp_collect_23 rfl ?_
      refine zcV (pc := 24) (As := [.long x3_14.toInt64]) (rest := []) ⟨hx, hb, hml, hown, hB⟩ (w_a_cu_valueAt l D cI cJ qu qr sq li co di rc x3_14.toInt64 _ rfl) (cwV 1 hB (zgV zw_369 zw_221 zw_222 zw_2 zw_223) rfl rfl rfl (by decide +kernel) ⟨by rw [hR]; exact Nat.le_of_ble_eq_true rfl, by rw [hR]; exact Nat.le_of_ble_eq_true rfl⟩) hK (hP.sub (ws' := [(qu, .inr (0, [.long sq, .long li, .long co, .long di, .ref qr])), (qr, .inl (cI, 97, .inl rc))]) [4, 5] rfl) (hD.sub (ws' := [(qu, .inr (0, [.long sq, .long li, .long co, .long di, .ref qr])), (qr, .inl (cI, 97, .inl rc))]) [4, 5] (by decide) rfl) rfl rfl rfl rfl hl.1 rfl (Nat.le_of_ble_eq_true rfl) d_fp_collect_24 ⟨Nat.zero_le _, Nat.zero_le _⟩ ?_
      refine lv_lstore (pc := 27) (lv' := [(4, .long (a_cu_valueAt sq li co x3_14.toInt64)), (0, .ref qf), (1, .ref qu), (2, .ref qd), (3, .int x3_14)]) hx hb d_fp_collect_27 hl (Nat.le_of_ble_eq_true rfl) rfl (fun ls hl => ?_)
      refine lv_iload_n (pc := 29) hx hb d_fp_collect_29 rfl (lv_at hl 4 rfl) ?_
      refine lv_bipush (pc := 30) (v := (23 : Int32)) hx hb d_fp_collect_30 (by decide) ?_
      refine lv_icmp_lt (pc := 32) (tgt := 48) hx hb d_fp_collect_32 rfl (fun h2 => ?_) (fun h2 => ?_)
      · rw [if_pos h2] at hm
        refine lv_lload (pc := 48) hx hb d_fp_collect_48 (lv_at hl 0 rfl) ?_
        refine lv_lconst (pc := 50) (v := (0 : Int64)) hx hb d_fp_collect_50 (by decide) ?_
        refine zl_ne (pc := 51) (tgt := 61) hx hb d_fp_collect_51 d_fp_collect_52 rfl (fun h3 => ?_) (fun h3 => ?_)
        · rw [if_neg h3] at hm
          refine lv_aload_n (pc := 61) hx hb d_fp_collect_61 rfl (lv_at hl 3 rfl) ?_
          refine lv_lload (pc := 62) hx hb d_fp_collect_62 (lv_at hl 0 rfl) ?_
          obtain ⟨r_c64, c4, hm⟩ := zbind hm
          try dsimp only at hm
          refine zcV (pc := 64) (As := [.long (a_cu_valueAt sq li co x3_14.toInt64)]) (rest := []) ⟨hx, hb, hml, hown, hB⟩ (w_a_sd_rootOf l D cI cJ qd qw dn dq dr (a_cu_valueAt sq li co x3_14.toInt64) n r_c64 c4) (cwV 1 hB (zgV zw_370 zw_371 zw_372 zw_3 zw_373) rfl rfl rfl (by decide +kernel) ⟨by rw [hR]; exact Nat.le_of_ble_eq_true rfl, by rw [hR]; exact Nat.le_of_ble_eq_true rfl⟩) hK (hP.sub (ws' := [(qd, .inr (2, [.ref qw, .int dn, .long dq])), (qw, .inl (cI, 64, .inl dr))]) [6, 7] rfl) (hD.sub (ws' := [(qd, .inr (2, [.ref qw, .int dn, .long dq])), (qw, .inl (cI, 64, .inl dr))]) [6, 7] (by decide) rfl) rfl rfl rfl rfl hl.1 rfl (Nat.le_of_ble_eq_true rfl) d_fp_collect_64 ⟨Nat.zero_le _, Nat.zero_le _⟩ ?_
          refine lv_istore (pc := 67) (lv' := [(6, .int r_c64), (4, .long (a_cu_valueAt sq li co x3_14.toInt64)), (0, .ref qf), (1, .ref qu), (2, .ref qd), (3, .int x3_14)]) hx hb d_fp_collect_67 hl (Nat.le_of_ble_eq_true rfl) rfl (fun ls hl => ?_)
          refine lv_iload (pc := 69) hx hb d_fp_collect_69 (lv_at hl 0 rfl) ?_
          refine lv_iconst (pc := 71) (v := (-1 : Int32)) hx hb d_fp_collect_71 (by decide) ?_
          refine lv_icmp_eq (pc := 72) (tgt := 90) hx hb d_fp_collect_72 rfl (fun h5 => ?_) (fun h5 => ?_)
          · rw [if_pos h5] at hm
            refine lv_iinc (pc := 90) (k := 5) (v := x3_14 + (1 : Int32)) (lv' := [(3, .int (x3_14 + (1 : Int32))), (6, .int r_c64), (4, .long (a_cu_valueAt sq li co x3_14.toInt64)), (0, .ref qf), (1, .ref qu), (2, .ref qd)]) hx hb d_fp_collect_90 hl rfl (congrArg (x3_14 + ·) (by decide)) (Nat.le_of_ble_eq_true rfl) rfl (fun ls hl => ?_)
            refine lv_goto (pc := 93) (tgt := 14) hx hb d_fp_collect_93 rfl ?_
            exact ih (x3_14 + (1 : Int32)) a1_14 a2_14 f0_3_14 H locs ls (lv_sub hl [3, 4, 5, 0] rfl) hP hD hS hm
          rw [if_neg h5] at hm
          refine lv_aload_n (pc := 75) hx hb d_fp_collect_75 rfl (lv_at hl 2 rfl) ?_
          refine lv_iload_n (pc := 76) hx hb d_fp_collect_76 rfl (lv_at hl 5 rfl) ?_
          refine lv_iload (pc := 77) hx hb d_fp_collect_77 (lv_at hl 0 rfl) ?_
          refine lv_ineg (pc := 79) hx hb d_fp_collect_79 ?_
          obtain ⟨⟨o1_c80, o2_c80, o0_3_c80⟩, c6, hm⟩ := zbind hm
          try dsimp only at hm
          refine zwV (pc := 80) (As := [.int x3_14, .int (-r_c64)]) (rest := []) ⟨hx, hb, hml, hown, hB⟩ (w_a_fp_append l D cI cJ qf qx qy qo f0_3_14 a1_14 a2_14 os x3_14 (-r_c64) o1_c80 o2_c80 o0_3_c80 c6) (cwV 2 hB (zgV zw_365 zw_367 zv_fp_append zw_4 zw_368) rfl rfl rfl (by decide +kernel) ⟨by rw [hR]; exact Nat.le_of_ble_eq_true rfl, by rw [hR]; exact Nat.le_of_ble_eq_true rfl⟩) hK hP hD hS [0, 1, 2, 3] (by decide) rfl rfl rfl rfl rfl rfl hl.1 rfl (Nat.le_of_ble_eq_true rfl) d_fp_collect_80 ⟨Nat.zero_le _, Nat.zero_le _⟩ (fun H locs hP hD hS => ?_)
          have hP : va_P D vwCl [(qf, .inr (1, [.ref qx, .ref qy, .ref qo, .int o0_3_c80])), (qx, .inl (cI, 32, .inl o1_c80)), (qy, .inl (cI, 32, .inl o2_c80)), (qo, .inl (cI, 32, .inl os)), (qu, .inr (0, [.long sq, .long li, .long co, .long di, .ref qr])), (qr, .inl (cI, 97, .inl rc)), (qd, .inr (2, [.ref qw, .int dn, .long dq])), (qw, .inl (cI, 64, .inl dr))] H := hP
          have hD : va_D A [(qf, .inr (1, [.ref qx, .ref qy, .ref qo, .int o0_3_c80])), (qx, .inl (cI, 32, .inl o1_c80)), (qy, .inl (cI, 32, .inl o2_c80)), (qo, .inl (cI, 32, .inl os)), (qu, .inr (0, [.long sq, .long li, .long co, .long di, .ref qr])), (qr, .inl (cI, 97, .inl rc)), (qd, .inr (2, [.ref qw, .int dn, .long dq])), (qw, .inl (cI, 64, .inl dr))] := hD
          refine lv_aload_n (pc := 83) hx hb d_fp_collect_83 rfl (lv_at hl 2 rfl) ?_
          refine lv_iload_n (pc := 84) hx hb d_fp_collect_84 rfl (lv_at hl 5 rfl) ?_
          refine lv_iload (pc := 85) hx hb d_fp_collect_85 (lv_at hl 0 rfl) ?_
          obtain ⟨⟨o1_c87, o2_c87, o0_3_c87⟩, c7, hm⟩ := zbind hm
          try dsimp only at hm
          refine zwV (pc := 87) (As := [.int x3_14, .int r_c64]) (rest := []) ⟨hx, hb, hml, hown, hB⟩ (w_a_fp_append l D cI cJ qf qx qy qo o0_3_c80 o1_c80 o2_c80 os x3_14 r_c64 o1_c87 o2_c87 o0_3_c87 c7) (cwV 2 hB (zgV zw_365 zw_367 zv_fp_append zw_4 zw_368) rfl rfl rfl (by decide +kernel) ⟨by rw [hR]; exact Nat.le_of_ble_eq_true rfl, by rw [hR]; exact Nat.le_of_ble_eq_true rfl⟩) hK hP hD hS [0, 1, 2, 3] (by decide) rfl rfl rfl rfl rfl rfl hl.1 rfl (Nat.le_of_ble_eq_true rfl) d_fp_collect_87 ⟨Nat.zero_le _, Nat.zero_le _⟩ (fun H locs hP hD hS => ?_)
          have hP : va_P D vwCl [(qf, .inr (1, [.ref qx, .ref qy, .ref qo, .int o0_3_c87])), (qx, .inl (cI, 32, .inl o1_c87)), (qy, .inl (cI, 32, .inl o2_c87)), (qo, .inl (cI, 32, .inl os)), (qu, .inr (0, [.long sq, .long li, .long co, .long di, .ref qr])), (qr, .inl (cI, 97, .inl rc)), (qd, .inr (2, [.ref qw, .int dn, .long dq])), (qw, .inl (cI, 64, .inl dr))] H := hP
          have hD : va_D A [(qf, .inr (1, [.ref qx, .ref qy, .ref qo, .int o0_3_c87])), (qx, .inl (cI, 32, .inl o1_c87)), (qy, .inl (cI, 32, .inl o2_c87)), (qo, .inl (cI, 32, .inl os)), (qu, .inr (0, [.long sq, .long li, .long co, .long di, .ref qr])), (qr, .inl (cI, 97, .inl rc)), (qd, .inr (2, [.ref qw, .int dn, .long dq])), (qw, .inl (cI, 64, .inl dr))] := hD
          refine lv_iinc (pc := 90) (k := 5) (v := x3_14 + (1 : Int32)) (lv' := [(3, .int (x3_14 + (1 : Int32))), (6, .int r_c64), (4, .long (a_cu_valueAt sq li co x3_14.toInt64)), (0, .ref qf), (1, .ref qu), (2, .ref qd)]) hx hb d_fp_collect_90 hl rfl (congrArg (x3_14 + ·) (by decide)) (Nat.le_of_ble_eq_true rfl) rfl (fun ls hl => ?_)
          refine lv_goto (pc := 93) (tgt := 14) hx hb d_fp_collect_93 rfl ?_
          exact ih (x3_14 + (1 : Int32)) o1_c87 o2_c87 o0_3_c87 H locs ls (lv_sub hl [3, 4, 5, 0] rfl) hP hD hS hm
        rw [if_pos h3] at hm
        refine lv_aload_n (pc := 55) hx hb d_fp_collect_55 rfl (lv_at hl 1 rfl) ?_
        refine lv_iload_n (pc := 56) hx hb d_fp_collect_56 rfl (lv_at hl 4 rfl) ?_
        refine lv_iconst (pc := 57) (v := (0 : Int32)) hx hb d_fp_collect_57 (by decide) ?_
        obtain ⟨⟨o1_c58, o2_c58, o0_3_c58⟩, c8, hm⟩ := zbind hm
        try dsimp only at hm
        refine zwV (pc := 58) (As := [.int x3_14, .int (0 : Int32)]) (rest := []) ⟨hx, hb, hml, hown, hB⟩ (w_a_fp_append l D cI cJ qf qx qy qo f0_3_14 a1_14 a2_14 os x3_14 (0 : Int32) o1_c58 o2_c58 o0_3_c58 c8) (cwV 2 hB (zgV zw_365 zw_367 zv_fp_append zw_4 zw_368) rfl rfl rfl (by decide +kernel) ⟨by rw [hR]; exact Nat.le_of_ble_eq_true rfl, by rw [hR]; exact Nat.le_of_ble_eq_true rfl⟩) hK hP hD hS [0, 1, 2, 3] (by decide) rfl rfl rfl rfl rfl rfl hl.1 rfl (Nat.le_of_ble_eq_true rfl) d_fp_collect_58 ⟨Nat.zero_le _, Nat.zero_le _⟩ (fun H locs hP hD hS => ?_)
        have hP : va_P D vwCl [(qf, .inr (1, [.ref qx, .ref qy, .ref qo, .int o0_3_c58])), (qx, .inl (cI, 32, .inl o1_c58)), (qy, .inl (cI, 32, .inl o2_c58)), (qo, .inl (cI, 32, .inl os)), (qu, .inr (0, [.long sq, .long li, .long co, .long di, .ref qr])), (qr, .inl (cI, 97, .inl rc)), (qd, .inr (2, [.ref qw, .int dn, .long dq])), (qw, .inl (cI, 64, .inl dr))] H := hP
        have hD : va_D A [(qf, .inr (1, [.ref qx, .ref qy, .ref qo, .int o0_3_c58])), (qx, .inl (cI, 32, .inl o1_c58)), (qy, .inl (cI, 32, .inl o2_c58)), (qo, .inl (cI, 32, .inl os)), (qu, .inr (0, [.long sq, .long li, .long co, .long di, .ref qr])), (qr, .inl (cI, 97, .inl rc)), (qd, .inr (2, [.ref qw, .int dn, .long dq])), (qw, .inl (cI, 64, .inl dr))] := hD
        refine lv_aload_n (pc := 61) hx hb d_fp_collect_61 rfl (lv_at hl 3 rfl) ?_
        refine lv_lload (pc := 62) hx hb d_fp_collect_62 (lv_at hl 0 rfl) ?_
        obtain ⟨r_c64, c9, hm⟩ := zbind hm
        try dsimp only at hm
        refine zcV (pc := 64) (As := [.long (a_cu_valueAt sq li co x3_14.toInt64)]) (rest := []) ⟨hx, hb, hml, hown, hB⟩ (w_a_sd_rootOf l D cI cJ qd qw dn dq dr (a_cu_valueAt sq li co x3_14.toInt64) n r_c64 c9) (cwV 1 hB (zgV zw_370 zw_371 zw_372 zw_3 zw_373) rfl rfl rfl (by decide +kernel) ⟨by rw [hR]; exact Nat.le_of_ble_eq_true rfl, by rw [hR]; exact Nat.le_of_ble_eq_true rfl⟩) hK (hP.sub (ws' := [(qd, .inr (2, [.ref qw, .int dn, .long dq])), (qw, .inl (cI, 64, .inl dr))]) [6, 7] rfl) (hD.sub (ws' := [(qd, .inr (2, [.ref qw, .int dn, .long dq])), (qw, .inl (cI, 64, .inl dr))]) [6, 7] (by decide) rfl) rfl rfl rfl rfl hl.1 rfl (Nat.le_of_ble_eq_true rfl) d_fp_collect_64 ⟨Nat.zero_le _, Nat.zero_le _⟩ ?_
        refine lv_istore (pc := 67) (lv' := [(6, .int r_c64), (4, .long (a_cu_valueAt sq li co x3_14.toInt64)), (0, .ref qf), (1, .ref qu), (2, .ref qd), (3, .int x3_14)]) hx hb d_fp_collect_67 hl (Nat.le_of_ble_eq_true rfl) rfl (fun ls hl => ?_)
        refine lv_iload (pc := 69) hx hb d_fp_collect_69 (lv_at hl 0 rfl) ?_
        refine lv_iconst (pc := 71) (v := (-1 : Int32)) hx hb d_fp_collect_71 (by decide) ?_
        refine lv_icmp_eq (pc := 72) (tgt := 90) hx hb d_fp_collect_72 rfl (fun h10 => ?_) (fun h10 => ?_)
        · rw [if_pos h10] at hm
          refine lv_iinc (pc := 90) (k := 5) (v := x3_14 + (1 : Int32)) (lv' := [(3, .int (x3_14 + (1 : Int32))), (6, .int r_c64), (4, .long (a_cu_valueAt sq li co x3_14.toInt64)), (0, .ref qf), (1, .ref qu), (2, .ref qd)]) hx hb d_fp_collect_90 hl rfl (congrArg (x3_14 + ·) (by decide)) (Nat.le_of_ble_eq_true rfl) rfl (fun ls hl => ?_)
          refine lv_goto (pc := 93) (tgt := 14) hx hb d_fp_collect_93 rfl ?_
          exact ih (x3_14 + (1 : Int32)) o1_c58 o2_c58 o0_3_c58 H locs ls (lv_sub hl [3, 4, 5, 0] rfl) hP hD hS hm
        rw [if_neg h10] at hm
        refine lv_aload_n (pc := 75) hx hb d_fp_collect_75 rfl (lv_at hl 2 rfl) ?_
        refine lv_iload_n (pc := 76) hx hb d_fp_collect_76 rfl (lv_at hl 5 rfl) ?_
        refine lv_iload (pc := 77) hx hb d_fp_collect_77 (lv_at hl 0 rfl) ?_
        refine lv_ineg (pc := 79) hx hb d_fp_collect_79 ?_
        obtain ⟨⟨o1_c80, o2_c80, o0_3_c80⟩, c11, hm⟩ := zbind hm
        try dsimp only at hm
        refine zwV (pc := 80) (As := [.int x3_14, .int (-r_c64)]) (rest := []) ⟨hx, hb, hml, hown, hB⟩ (w_a_fp_append l D cI cJ qf qx qy qo o0_3_c58 o1_c58 o2_c58 os x3_14 (-r_c64) o1_c80 o2_c80 o0_3_c80 c11) (cwV 2 hB (zgV zw_365 zw_367 zv_fp_append zw_4 zw_368) rfl rfl rfl (by decide +kernel) ⟨by rw [hR]; exact Nat.le_of_ble_eq_true rfl, by rw [hR]; exact Nat.le_of_ble_eq_true rfl⟩) hK hP hD hS [0, 1, 2, 3] (by decide) rfl rfl rfl rfl rfl rfl hl.1 rfl (Nat.le_of_ble_eq_true rfl) d_fp_collect_80 ⟨Nat.zero_le _, Nat.zero_le _⟩ (fun H locs hP hD hS => ?_)
        have hP : va_P D vwCl [(qf, .inr (1, [.ref qx, .ref qy, .ref qo, .int o0_3_c80])), (qx, .inl (cI, 32, .inl o1_c80)), (qy, .inl (cI, 32, .inl o2_c80)), (qo, .inl (cI, 32, .inl os)), (qu, .inr (0, [.long sq, .long li, .long co, .long di, .ref qr])), (qr, .inl (cI, 97, .inl rc)), (qd, .inr (2, [.ref qw, .int dn, .long dq])), (qw, .inl (cI, 64, .inl dr))] H := hP
        have hD : va_D A [(qf, .inr (1, [.ref qx, .ref qy, .ref qo, .int o0_3_c80])), (qx, .inl (cI, 32, .inl o1_c80)), (qy, .inl (cI, 32, .inl o2_c80)), (qo, .inl (cI, 32, .inl os)), (qu, .inr (0, [.long sq, .long li, .long co, .long di, .ref qr])), (qr, .inl (cI, 97, .inl rc)), (qd, .inr (2, [.ref qw, .int dn, .long dq])), (qw, .inl (cI, 64, .inl dr))] := hD
        refine lv_aload_n (pc := 83) hx hb d_fp_collect_83 rfl (lv_at hl 2 rfl) ?_
        refine lv_iload_n (pc := 84) hx hb d_fp_collect_84 rfl (lv_at hl 5 rfl) ?_
        refine lv_iload (pc := 85) hx hb d_fp_collect_85 (lv_at hl 0 rfl) ?_
        obtain ⟨⟨o1_c87, o2_c87, o0_3_c87⟩, c12, hm⟩ := zbind hm
        try dsimp only at hm
        refine zwV (pc := 87) (As := [.int x3_14, .int r_c64]) (rest := []) ⟨hx, hb, hml, hown, hB⟩ (w_a_fp_append l D cI cJ qf qx qy qo o0_3_c80 o1_c80 o2_c80 os x3_14 r_c64 o1_c87 o2_c87 o0_3_c87 c12) (cwV 2 hB (zgV zw_365 zw_367 zv_fp_append zw_4 zw_368) rfl rfl rfl (by decide +kernel) ⟨by rw [hR]; exact Nat.le_of_ble_eq_true rfl, by rw [hR]; exact Nat.le_of_ble_eq_true rfl⟩) hK hP hD hS [0, 1, 2, 3] (by decide) rfl rfl rfl rfl rfl rfl hl.1 rfl (Nat.le_of_ble_eq_true rfl) d_fp_collect_87 ⟨Nat.zero_le _, Nat.zero_le _⟩ (fun H locs hP hD hS => ?_)
        have hP : va_P D vwCl [(qf, .inr (1, [.ref qx, .ref qy, .ref qo, .int o0_3_c87])), (qx, .inl (cI, 32, .inl o1_c87)), (qy, .inl (cI, 32, .inl o2_c87)), (qo, .inl (cI, 32, .inl os)), (qu, .inr (0, [.long sq, .long li, .long co, .long di, .ref qr])), (qr, .inl (cI, 97, .inl rc)), (qd, .inr (2, [.ref qw, .int dn, .long dq])), (qw, .inl (cI, 64, .inl dr))] H := hP
        have hD : va_D A [(qf, .inr (1, [.ref qx, .ref qy, .ref qo, .int o0_3_c87])), (qx, .inl (cI, 32, .inl o1_c87)), (qy, .inl (cI, 32, .inl o2_c87)), (qo, .inl (cI, 32, .inl os)), (qu, .inr (0, [.long sq, .long li, .long co, .long di, .ref qr])), (qr, .inl (cI, 97, .inl rc)), (qd, .inr (2, [.ref qw, .int dn, .long dq])), (qw, .inl (cI, 64, .inl dr))] := hD
        refine lv_iinc (pc := 90) (k := 5) (v := x3_14 + (1 : Int32)) (lv' := [(3, .int (x3_14 + (1 : Int32))), (6, .int r_c64), (4, .long (a_cu_valueAt sq li co x3_14.toInt64)), (0, .ref qf), (1, .ref qu), (2, .ref qd)]) hx hb d_fp_collect_90 hl rfl (congrArg (x3_14 + ·) (by decide)) (Nat.le_of_ble_eq_true rfl) rfl (fun ls hl => ?_)
        refine lv_goto (pc := 93) (tgt := 14) hx hb d_fp_collect_93 rfl ?_
        exact ih (x3_14 + (1 : Int32)) o1_c87 o2_c87 o0_3_c87 H locs ls (lv_sub hl [3, 4, 5, 0] rfl) hP hD hS hm
      rw [if_neg h2] at hm
      refine lv_lload (pc := 35) hx hb d_fp_collect_35 (lv_at hl 0 rfl) ?_
      refine lv_aload_n (pc := 37) hx hb d_fp_collect_37 rfl (lv_at hl 3 rfl) ?_
      refine va_get (pc := 38) (D := D) (ci := 2) (v := .long dq) (C := "TorsionDesk$SquareDivisors") (T := tX2) (N := 3) hx hb hB lX2 hown hK hP 6 rfl rfl 2 (by decide) (hB _ zw_58) (fun _ h9 => h9) rfl d_fp_collect_38 ?_
      refine zl_le (pc := 41) (tgt := 48) hx hb d_fp_collect_41 d_fp_collect_42 rfl (fun h13 => ?_) (fun h13 => ?_)
      · rw [if_pos h13] at hm
        refine lv_lload (pc := 48) hx hb d_fp_collect_48 (lv_at hl 0 rfl) ?_
        refine lv_lconst (pc := 50) (v := (0 : Int64)) hx hb d_fp_collect_50 (by decide) ?_
        refine zl_ne (pc := 51) (tgt := 61) hx hb d_fp_collect_51 d_fp_collect_52 rfl (fun h14 => ?_) (fun h14 => ?_)
        · rw [if_neg h14] at hm
          refine lv_aload_n (pc := 61) hx hb d_fp_collect_61 rfl (lv_at hl 3 rfl) ?_
          refine lv_lload (pc := 62) hx hb d_fp_collect_62 (lv_at hl 0 rfl) ?_
          obtain ⟨r_c64, c15, hm⟩ := zbind hm
          try dsimp only at hm
          refine zcV (pc := 64) (As := [.long (a_cu_valueAt sq li co x3_14.toInt64)]) (rest := []) ⟨hx, hb, hml, hown, hB⟩ (w_a_sd_rootOf l D cI cJ qd qw dn dq dr (a_cu_valueAt sq li co x3_14.toInt64) n r_c64 c15) (cwV 1 hB (zgV zw_370 zw_371 zw_372 zw_3 zw_373) rfl rfl rfl (by decide +kernel) ⟨by rw [hR]; exact Nat.le_of_ble_eq_true rfl, by rw [hR]; exact Nat.le_of_ble_eq_true rfl⟩) hK (hP.sub (ws' := [(qd, .inr (2, [.ref qw, .int dn, .long dq])), (qw, .inl (cI, 64, .inl dr))]) [6, 7] rfl) (hD.sub (ws' := [(qd, .inr (2, [.ref qw, .int dn, .long dq])), (qw, .inl (cI, 64, .inl dr))]) [6, 7] (by decide) rfl) rfl rfl rfl rfl hl.1 rfl (Nat.le_of_ble_eq_true rfl) d_fp_collect_64 ⟨Nat.zero_le _, Nat.zero_le _⟩ ?_
          refine lv_istore (pc := 67) (lv' := [(6, .int r_c64), (4, .long (a_cu_valueAt sq li co x3_14.toInt64)), (0, .ref qf), (1, .ref qu), (2, .ref qd), (3, .int x3_14)]) hx hb d_fp_collect_67 hl (Nat.le_of_ble_eq_true rfl) rfl (fun ls hl => ?_)
          refine lv_iload (pc := 69) hx hb d_fp_collect_69 (lv_at hl 0 rfl) ?_
          refine lv_iconst (pc := 71) (v := (-1 : Int32)) hx hb d_fp_collect_71 (by decide) ?_
          refine lv_icmp_eq (pc := 72) (tgt := 90) hx hb d_fp_collect_72 rfl (fun h16 => ?_) (fun h16 => ?_)
          · rw [if_pos h16] at hm
            refine lv_iinc (pc := 90) (k := 5) (v := x3_14 + (1 : Int32)) (lv' := [(3, .int (x3_14 + (1 : Int32))), (6, .int r_c64), (4, .long (a_cu_valueAt sq li co x3_14.toInt64)), (0, .ref qf), (1, .ref qu), (2, .ref qd)]) hx hb d_fp_collect_90 hl rfl (congrArg (x3_14 + ·) (by decide)) (Nat.le_of_ble_eq_true rfl) rfl (fun ls hl => ?_)
            refine lv_goto (pc := 93) (tgt := 14) hx hb d_fp_collect_93 rfl ?_
            exact ih (x3_14 + (1 : Int32)) a1_14 a2_14 f0_3_14 H locs ls (lv_sub hl [3, 4, 5, 0] rfl) hP hD hS hm
          rw [if_neg h16] at hm
          refine lv_aload_n (pc := 75) hx hb d_fp_collect_75 rfl (lv_at hl 2 rfl) ?_
          refine lv_iload_n (pc := 76) hx hb d_fp_collect_76 rfl (lv_at hl 5 rfl) ?_
          refine lv_iload (pc := 77) hx hb d_fp_collect_77 (lv_at hl 0 rfl) ?_
          refine lv_ineg (pc := 79) hx hb d_fp_collect_79 ?_
          obtain ⟨⟨o1_c80, o2_c80, o0_3_c80⟩, c17, hm⟩ := zbind hm
          try dsimp only at hm
          refine zwV (pc := 80) (As := [.int x3_14, .int (-r_c64)]) (rest := []) ⟨hx, hb, hml, hown, hB⟩ (w_a_fp_append l D cI cJ qf qx qy qo f0_3_14 a1_14 a2_14 os x3_14 (-r_c64) o1_c80 o2_c80 o0_3_c80 c17) (cwV 2 hB (zgV zw_365 zw_367 zv_fp_append zw_4 zw_368) rfl rfl rfl (by decide +kernel) ⟨by rw [hR]; exact Nat.le_of_ble_eq_true rfl, by rw [hR]; exact Nat.le_of_ble_eq_true rfl⟩) hK hP hD hS [0, 1, 2, 3] (by decide) rfl rfl rfl rfl rfl rfl hl.1 rfl (Nat.le_of_ble_eq_true rfl) d_fp_collect_80 ⟨Nat.zero_le _, Nat.zero_le _⟩ (fun H locs hP hD hS => ?_)
          have hP : va_P D vwCl [(qf, .inr (1, [.ref qx, .ref qy, .ref qo, .int o0_3_c80])), (qx, .inl (cI, 32, .inl o1_c80)), (qy, .inl (cI, 32, .inl o2_c80)), (qo, .inl (cI, 32, .inl os)), (qu, .inr (0, [.long sq, .long li, .long co, .long di, .ref qr])), (qr, .inl (cI, 97, .inl rc)), (qd, .inr (2, [.ref qw, .int dn, .long dq])), (qw, .inl (cI, 64, .inl dr))] H := hP
          have hD : va_D A [(qf, .inr (1, [.ref qx, .ref qy, .ref qo, .int o0_3_c80])), (qx, .inl (cI, 32, .inl o1_c80)), (qy, .inl (cI, 32, .inl o2_c80)), (qo, .inl (cI, 32, .inl os)), (qu, .inr (0, [.long sq, .long li, .long co, .long di, .ref qr])), (qr, .inl (cI, 97, .inl rc)), (qd, .inr (2, [.ref qw, .int dn, .long dq])), (qw, .inl (cI, 64, .inl dr))] := hD
          refine lv_aload_n (pc := 83) hx hb d_fp_collect_83 rfl (lv_at hl 2 rfl) ?_
          refine lv_iload_n (pc := 84) hx hb d_fp_collect_84 rfl (lv_at hl 5 rfl) ?_
          refine lv_iload (pc := 85) hx hb d_fp_collect_85 (lv_at hl 0 rfl) ?_
          obtain ⟨⟨o1_c87, o2_c87, o0_3_c87⟩, c18, hm⟩ := zbind hm
          try dsimp only at hm
          refine zwV (pc := 87) (As := [.int x3_14, .int r_c64]) (rest := []) ⟨hx, hb, hml, hown, hB⟩ (w_a_fp_append l D cI cJ qf qx qy qo o0_3_c80 o1_c80 o2_c80 os x3_14 r_c64 o1_c87 o2_c87 o0_3_c87 c18) (cwV 2 hB (zgV zw_365 zw_367 zv_fp_append zw_4 zw_368) rfl rfl rfl (by decide +kernel) ⟨by rw [hR]; exact Nat.le_of_ble_eq_true rfl, by rw [hR]; exact Nat.le_of_ble_eq_true rfl⟩) hK hP hD hS [0, 1, 2, 3] (by decide) rfl rfl rfl rfl rfl rfl hl.1 rfl (Nat.le_of_ble_eq_true rfl) d_fp_collect_87 ⟨Nat.zero_le _, Nat.zero_le _⟩ (fun H locs hP hD hS => ?_)
          have hP : va_P D vwCl [(qf, .inr (1, [.ref qx, .ref qy, .ref qo, .int o0_3_c87])), (qx, .inl (cI, 32, .inl o1_c87)), (qy, .inl (cI, 32, .inl o2_c87)), (qo, .inl (cI, 32, .inl os)), (qu, .inr (0, [.long sq, .long li, .long co, .long di, .ref qr])), (qr, .inl (cI, 97, .inl rc)), (qd, .inr (2, [.ref qw, .int dn, .long dq])), (qw, .inl (cI, 64, .inl dr))] H := hP
          have hD : va_D A [(qf, .inr (1, [.ref qx, .ref qy, .ref qo, .int o0_3_c87])), (qx, .inl (cI, 32, .inl o1_c87)), (qy, .inl (cI, 32, .inl o2_c87)), (qo, .inl (cI, 32, .inl os)), (qu, .inr (0, [.long sq, .long li, .long co, .long di, .ref qr])), (qr, .inl (cI, 97, .inl rc)), (qd, .inr (2, [.ref qw, .int dn, .long dq])), (qw, .inl (cI, 64, .inl dr))] := hD
          refine lv_iinc (pc := 90) (k := 5) (v := x3_14 + (1 : Int32)) (lv' := [(3, .int (x3_14 + (1 : Int32))), (6, .int r_c64), (4, .long (a_cu_valueAt sq li co x3_14.toInt64)), (0, .ref qf), (1, .ref qu), (2, .ref qd)]) hx hb d_fp_collect_90 hl rfl (congrArg (x3_14 + ·) (by decide)) (Nat.le_of_ble_eq_true rfl) rfl (fun ls hl => ?_)
          refine lv_goto (pc := 93) (tgt := 14) hx hb d_fp_collect_93 rfl ?_
          exact ih (x3_14 + (1 : Int32)) o1_c87 o2_c87 o0_3_c87 H locs ls (lv_sub hl [3, 4, 5, 0] rfl) hP hD hS hm
        rw [if_pos h14] at hm
        refine lv_aload_n (pc := 55) hx hb d_fp_collect_55 rfl (lv_at hl 1 rfl) ?_
        refine lv_iload_n (pc := 56) hx hb d_fp_collect_56 rfl (lv_at hl 4 rfl) ?_
        refine lv_iconst (pc := 57) (v := (0 : Int32)) hx hb d_fp_collect_57 (by decide) ?_
        obtain ⟨⟨o1_c58, o2_c58, o0_3_c58⟩, c19, hm⟩ := zbind hm
        try dsimp only at hm
        refine zwV (pc := 58) (As := [.int x3_14, .int (0 : Int32)]) (rest := []) ⟨hx, hb, hml, hown, hB⟩ (w_a_fp_append l D cI cJ qf qx qy qo f0_3_14 a1_14 a2_14 os x3_14 (0 : Int32) o1_c58 o2_c58 o0_3_c58 c19) (cwV 2 hB (zgV zw_365 zw_367 zv_fp_append zw_4 zw_368) rfl rfl rfl (by decide +kernel) ⟨by rw [hR]; exact Nat.le_of_ble_eq_true rfl, by rw [hR]; exact Nat.le_of_ble_eq_true rfl⟩) hK hP hD hS [0, 1, 2, 3] (by decide) rfl rfl rfl rfl rfl rfl hl.1 rfl (Nat.le_of_ble_eq_true rfl) d_fp_collect_58 ⟨Nat.zero_le _, Nat.zero_le _⟩ (fun H locs hP hD hS => ?_)
        have hP : va_P D vwCl [(qf, .inr (1, [.ref qx, .ref qy, .ref qo, .int o0_3_c58])), (qx, .inl (cI, 32, .inl o1_c58)), (qy, .inl (cI, 32, .inl o2_c58)), (qo, .inl (cI, 32, .inl os)), (qu, .inr (0, [.long sq, .long li, .long co, .long di, .ref qr])), (qr, .inl (cI, 97, .inl rc)), (qd, .inr (2, [.ref qw, .int dn, .long dq])), (qw, .inl (cI, 64, .inl dr))] H := hP
        have hD : va_D A [(qf, .inr (1, [.ref qx, .ref qy, .ref qo, .int o0_3_c58])), (qx, .inl (cI, 32, .inl o1_c58)), (qy, .inl (cI, 32, .inl o2_c58)), (qo, .inl (cI, 32, .inl os)), (qu, .inr (0, [.long sq, .long li, .long co, .long di, .ref qr])), (qr, .inl (cI, 97, .inl rc)), (qd, .inr (2, [.ref qw, .int dn, .long dq])), (qw, .inl (cI, 64, .inl dr))] := hD
        refine lv_aload_n (pc := 61) hx hb d_fp_collect_61 rfl (lv_at hl 3 rfl) ?_
        refine lv_lload (pc := 62) hx hb d_fp_collect_62 (lv_at hl 0 rfl) ?_
        obtain ⟨r_c64, c20, hm⟩ := zbind hm
        try dsimp only at hm
        refine zcV (pc := 64) (As := [.long (a_cu_valueAt sq li co x3_14.toInt64)]) (rest := []) ⟨hx, hb, hml, hown, hB⟩ (w_a_sd_rootOf l D cI cJ qd qw dn dq dr (a_cu_valueAt sq li co x3_14.toInt64) n r_c64 c20) (cwV 1 hB (zgV zw_370 zw_371 zw_372 zw_3 zw_373) rfl rfl rfl (by decide +kernel) ⟨by rw [hR]; exact Nat.le_of_ble_eq_true rfl, by rw [hR]; exact Nat.le_of_ble_eq_true rfl⟩) hK (hP.sub (ws' := [(qd, .inr (2, [.ref qw, .int dn, .long dq])), (qw, .inl (cI, 64, .inl dr))]) [6, 7] rfl) (hD.sub (ws' := [(qd, .inr (2, [.ref qw, .int dn, .long dq])), (qw, .inl (cI, 64, .inl dr))]) [6, 7] (by decide) rfl) rfl rfl rfl rfl hl.1 rfl (Nat.le_of_ble_eq_true rfl) d_fp_collect_64 ⟨Nat.zero_le _, Nat.zero_le _⟩ ?_
        refine lv_istore (pc := 67) (lv' := [(6, .int r_c64), (4, .long (a_cu_valueAt sq li co x3_14.toInt64)), (0, .ref qf), (1, .ref qu), (2, .ref qd), (3, .int x3_14)]) hx hb d_fp_collect_67 hl (Nat.le_of_ble_eq_true rfl) rfl (fun ls hl => ?_)
        refine lv_iload (pc := 69) hx hb d_fp_collect_69 (lv_at hl 0 rfl) ?_
        refine lv_iconst (pc := 71) (v := (-1 : Int32)) hx hb d_fp_collect_71 (by decide) ?_
        refine lv_icmp_eq (pc := 72) (tgt := 90) hx hb d_fp_collect_72 rfl (fun h21 => ?_) (fun h21 => ?_)
        · rw [if_pos h21] at hm
          refine lv_iinc (pc := 90) (k := 5) (v := x3_14 + (1 : Int32)) (lv' := [(3, .int (x3_14 + (1 : Int32))), (6, .int r_c64), (4, .long (a_cu_valueAt sq li co x3_14.toInt64)), (0, .ref qf), (1, .ref qu), (2, .ref qd)]) hx hb d_fp_collect_90 hl rfl (congrArg (x3_14 + ·) (by decide)) (Nat.le_of_ble_eq_true rfl) rfl (fun ls hl => ?_)
          refine lv_goto (pc := 93) (tgt := 14) hx hb d_fp_collect_93 rfl ?_
          exact ih (x3_14 + (1 : Int32)) o1_c58 o2_c58 o0_3_c58 H locs ls (lv_sub hl [3, 4, 5, 0] rfl) hP hD hS hm
        rw [if_neg h21] at hm
        refine lv_aload_n (pc := 75) hx hb d_fp_collect_75 rfl (lv_at hl 2 rfl) ?_
        refine lv_iload_n (pc := 76) hx hb d_fp_collect_76 rfl (lv_at hl 5 rfl) ?_
        refine lv_iload (pc := 77) hx hb d_fp_collect_77 (lv_at hl 0 rfl) ?_
        refine lv_ineg (pc := 79) hx hb d_fp_collect_79 ?_
        obtain ⟨⟨o1_c80, o2_c80, o0_3_c80⟩, c22, hm⟩ := zbind hm
        try dsimp only at hm
        refine zwV (pc := 80) (As := [.int x3_14, .int (-r_c64)]) (rest := []) ⟨hx, hb, hml, hown, hB⟩ (w_a_fp_append l D cI cJ qf qx qy qo o0_3_c58 o1_c58 o2_c58 os x3_14 (-r_c64) o1_c80 o2_c80 o0_3_c80 c22) (cwV 2 hB (zgV zw_365 zw_367 zv_fp_append zw_4 zw_368) rfl rfl rfl (by decide +kernel) ⟨by rw [hR]; exact Nat.le_of_ble_eq_true rfl, by rw [hR]; exact Nat.le_of_ble_eq_true rfl⟩) hK hP hD hS [0, 1, 2, 3] (by decide) rfl rfl rfl rfl rfl rfl hl.1 rfl (Nat.le_of_ble_eq_true rfl) d_fp_collect_80 ⟨Nat.zero_le _, Nat.zero_le _⟩ (fun H locs hP hD hS => ?_)
        have hP : va_P D vwCl [(qf, .inr (1, [.ref qx, .ref qy, .ref qo, .int o0_3_c80])), (qx, .inl (cI, 32, .inl o1_c80)), (qy, .inl (cI, 32, .inl o2_c80)), (qo, .inl (cI, 32, .inl os)), (qu, .inr (0, [.long sq, .long li, .long co, .long di, .ref qr])), (qr, .inl (cI, 97, .inl rc)), (qd, .inr (2, [.ref qw, .int dn, .long dq])), (qw, .inl (cI, 64, .inl dr))] H := hP
        have hD : va_D A [(qf, .inr (1, [.ref qx, .ref qy, .ref qo, .int o0_3_c80])), (qx, .inl (cI, 32, .inl o1_c80)), (qy, .inl (cI, 32, .inl o2_c80)), (qo, .inl (cI, 32, .inl os)), (qu, .inr (0, [.long sq, .long li, .long co, .long di, .ref qr])), (qr, .inl (cI, 97, .inl rc)), (qd, .inr (2, [.ref qw, .int dn, .long dq])), (qw, .inl (cI, 64, .inl dr))] := hD
        refine lv_aload_n (pc := 83) hx hb d_fp_collect_83 rfl (lv_at hl 2 rfl) ?_
        refine lv_iload_n (pc := 84) hx hb d_fp_collect_84 rfl (lv_at hl 5 rfl) ?_
        refine lv_iload (pc := 85) hx hb d_fp_collect_85 (lv_at hl 0 rfl) ?_
        obtain ⟨⟨o1_c87, o2_c87, o0_3_c87⟩, c23, hm⟩ := zbind hm
        try dsimp only at hm
        refine zwV (pc := 87) (As := [.int x3_14, .int r_c64]) (rest := []) ⟨hx, hb, hml, hown, hB⟩ (w_a_fp_append l D cI cJ qf qx qy qo o0_3_c80 o1_c80 o2_c80 os x3_14 r_c64 o1_c87 o2_c87 o0_3_c87 c23) (cwV 2 hB (zgV zw_365 zw_367 zv_fp_append zw_4 zw_368) rfl rfl rfl (by decide +kernel) ⟨by rw [hR]; exact Nat.le_of_ble_eq_true rfl, by rw [hR]; exact Nat.le_of_ble_eq_true rfl⟩) hK hP hD hS [0, 1, 2, 3] (by decide) rfl rfl rfl rfl rfl rfl hl.1 rfl (Nat.le_of_ble_eq_true rfl) d_fp_collect_87 ⟨Nat.zero_le _, Nat.zero_le _⟩ (fun H locs hP hD hS => ?_)
        have hP : va_P D vwCl [(qf, .inr (1, [.ref qx, .ref qy, .ref qo, .int o0_3_c87])), (qx, .inl (cI, 32, .inl o1_c87)), (qy, .inl (cI, 32, .inl o2_c87)), (qo, .inl (cI, 32, .inl os)), (qu, .inr (0, [.long sq, .long li, .long co, .long di, .ref qr])), (qr, .inl (cI, 97, .inl rc)), (qd, .inr (2, [.ref qw, .int dn, .long dq])), (qw, .inl (cI, 64, .inl dr))] H := hP
        have hD : va_D A [(qf, .inr (1, [.ref qx, .ref qy, .ref qo, .int o0_3_c87])), (qx, .inl (cI, 32, .inl o1_c87)), (qy, .inl (cI, 32, .inl o2_c87)), (qo, .inl (cI, 32, .inl os)), (qu, .inr (0, [.long sq, .long li, .long co, .long di, .ref qr])), (qr, .inl (cI, 97, .inl rc)), (qd, .inr (2, [.ref qw, .int dn, .long dq])), (qw, .inl (cI, 64, .inl dr))] := hD
        refine lv_iinc (pc := 90) (k := 5) (v := x3_14 + (1 : Int32)) (lv' := [(3, .int (x3_14 + (1 : Int32))), (6, .int r_c64), (4, .long (a_cu_valueAt sq li co x3_14.toInt64)), (0, .ref qf), (1, .ref qu), (2, .ref qd)]) hx hb d_fp_collect_90 hl rfl (congrArg (x3_14 + ·) (by decide)) (Nat.le_of_ble_eq_true rfl) rfl (fun ls hl => ?_)
        refine lv_goto (pc := 93) (tgt := 14) hx hb d_fp_collect_93 rfl ?_
        exact ih (x3_14 + (1 : Int32)) o1_c87 o2_c87 o0_3_c87 H locs ls (lv_sub hl [3, 4, 5, 0] rfl) hP hD hS hm
      rw [if_neg h13] at hm
      refine lv_goto (pc := 45) (tgt := 96) hx hb d_fp_collect_45 rfl ?_
      cases hm
      rw [hQ]
      exact W.vret (pc := 96) hx hb hr (fun t ht _ => ⟨rfl, by rw [ht]; exact hP, hS.F ht⟩) hS.2.2 d_fp_collect_96
  have main : ∀ (H : Heap) (locs : List Loc), va_P D vwCl [(qf, .inr (1, [.ref qx, .ref qy, .ref qo, .int fn])), (qx, .inl (cI, 32, .inl xs)), (qy, .inl (cI, 32, .inl ys)), (qo, .inl (cI, 32, .inl os)), (qu, .inr (0, [.long sq, .long li, .long co, .long di, .ref qr])), (qr, .inl (cI, 97, .inl rc)), (qd, .inr (2, [.ref qw, .int dn, .long dq])), (qw, .inl (cI, 64, .inl dr))] H → va_D A [(qf, .inr (1, [.ref qx, .ref qy, .ref qo, .int fn])), (qx, .inl (cI, 32, .inl xs)), (qy, .inl (cI, 32, .inl ys)), (qo, .inl (cI, 32, .inl os)), (qu, .inr (0, [.long sq, .long li, .long co, .long di, .ref qr])), (qr, .inl (cI, 97, .inl rc)), (qd, .inr (2, [.ref qw, .int dn, .long dq])), (qw, .inl (cI, 64, .inl dr))] → va_S A s.heap H locs → W p l e R s m args below meth c H locs 0 0 Q (F0 m 0 ls []) := by
    intro H locs hP hD hS
    rw [a_fp_collect] at hm
    refine lv_aload_n (pc := 0) hx hb d_fp_collect_0 rfl (lv_at hl 0 rfl) ?_
    refine lv_iconst (pc := 1) (v := (0 : Int32)) hx hb d_fp_collect_1 (by decide) ?_
    refine va_put (pc := 2) (D := D) (ci := 1) (v := .int (0 : Int32)) (ty := .int) (C := "TorsionDesk$FinitePoints") (T := tX1) (N := 4) hx hb hB lX1 yX1 yX1_ok nX1 hown hK hP hD hS 0 rfl rfl 3 (by decide) (hB _ zw_78) (fun _ h9 => h9) rfl (by decide +kernel) rfl rfl (Nat.le_of_ble_eq_true rfl) d_fp_collect_2 (fun H locs hP hD hS => ?_)
    have hP : va_P D vwCl [(qf, .inr (1, [.ref qx, .ref qy, .ref qo, .int (0 : Int32)])), (qx, .inl (cI, 32, .inl xs)), (qy, .inl (cI, 32, .inl ys)), (qo, .inl (cI, 32, .inl os)), (qu, .inr (0, [.long sq, .long li, .long co, .long di, .ref qr])), (qr, .inl (cI, 97, .inl rc)), (qd, .inr (2, [.ref qw, .int dn, .long dq])), (qw, .inl (cI, 64, .inl dr))] H := hP
    have hD : va_D A [(qf, .inr (1, [.ref qx, .ref qy, .ref qo, .int (0 : Int32)])), (qx, .inl (cI, 32, .inl xs)), (qy, .inl (cI, 32, .inl ys)), (qo, .inl (cI, 32, .inl os)), (qu, .inr (0, [.long sq, .long li, .long co, .long di, .ref qr])), (qr, .inl (cI, 97, .inl rc)), (qd, .inr (2, [.ref qw, .int dn, .long dq])), (qw, .inl (cI, 64, .inl dr))] := hD
    refine lv_aload_n (pc := 5) hx hb d_fp_collect_5 rfl (lv_at hl 0 rfl) ?_
    refine lv_iconst (pc := 6) (v := (0 : Int32)) hx hb d_fp_collect_6 (by decide) ?_
    refine lv_iconst (pc := 7) (v := (0 : Int32)) hx hb d_fp_collect_7 (by decide) ?_
    obtain ⟨⟨o1_c8, o2_c8, o0_3_c8⟩, c1, hm⟩ := zbind hm
    try dsimp only at hm
    refine zwV (pc := 8) (As := [.int (0 : Int32), .int (0 : Int32)]) (rest := []) ⟨hx, hb, hml, hown, hB⟩ (w_a_fp_append l D cI cJ qf qx qy qo (0 : Int32) xs ys os (0 : Int32) (0 : Int32) o1_c8 o2_c8 o0_3_c8 c1) (cwV 2 hB (zgV zw_365 zw_367 zv_fp_append zw_4 zw_368) rfl rfl rfl (by decide +kernel) ⟨by rw [hR]; exact Nat.le_of_ble_eq_true rfl, by rw [hR]; exact Nat.le_of_ble_eq_true rfl⟩) hK hP hD hS [0, 1, 2, 3] (by decide) rfl rfl rfl rfl rfl rfl hl.1 rfl (Nat.le_of_ble_eq_true rfl) d_fp_collect_8 ⟨Nat.zero_le _, Nat.zero_le _⟩ (fun H locs hP hD hS => ?_)
    have hP : va_P D vwCl [(qf, .inr (1, [.ref qx, .ref qy, .ref qo, .int o0_3_c8])), (qx, .inl (cI, 32, .inl o1_c8)), (qy, .inl (cI, 32, .inl o2_c8)), (qo, .inl (cI, 32, .inl os)), (qu, .inr (0, [.long sq, .long li, .long co, .long di, .ref qr])), (qr, .inl (cI, 97, .inl rc)), (qd, .inr (2, [.ref qw, .int dn, .long dq])), (qw, .inl (cI, 64, .inl dr))] H := hP
    have hD : va_D A [(qf, .inr (1, [.ref qx, .ref qy, .ref qo, .int o0_3_c8])), (qx, .inl (cI, 32, .inl o1_c8)), (qy, .inl (cI, 32, .inl o2_c8)), (qo, .inl (cI, 32, .inl os)), (qu, .inr (0, [.long sq, .long li, .long co, .long di, .ref qr])), (qr, .inl (cI, 97, .inl rc)), (qd, .inr (2, [.ref qw, .int dn, .long dq])), (qw, .inl (cI, 64, .inl dr))] := hD
    refine lv_bipush (pc := 11) (v := (-70 : Int32)) hx hb d_fp_collect_11 (by decide) ?_
    refine lv_istore_n (pc := 13) (lv' := [(3, .int (-70 : Int32)), (0, .ref qf), (1, .ref qu), (2, .ref qd)]) hx hb d_fp_collect_13 rfl hl (Nat.le_of_ble_eq_true rfl) rfl (fun ls hl => ?_)
    exact k14 N (-70 : Int32) o1_c8 o2_c8 o0_3_c8 H locs ls (lv_sub hl [1, 2, 3, 0] rfl) hP hD hS hm
  exact main s.heap [] hP hD hS
abbrev rm_fp_search : Room := { frames := 3, cells := 0, slots := 0, locals := 85 }
def a_fp_search_L8 (sq : Int64) (li : Int64) (o0_3_c3 : Int32) (o1_c3 : Nat → Int32) (o2_c3 : Nat → Int32) : Nat → (Nat → Int32) → Int32 → Option ((Nat → Int32) × (Nat → Int32) × (Nat → Int32) × Int32)
  | 0, _, _ => none
  | n + 1, a3_8, x3_8 => (if o0_3_c3 ≤ x3_8 then ((a_fp_keepFinite n o0_3_c3 o1_c3 o2_c3 a3_8).bind (fun (o1_c35, o2_c35, o3_c35, o0_3_c35) => (some (o1_c35, o2_c35, o3_c35, o0_3_c35)))) else ((a_fp_orderOf n o0_3_c3 o1_c3 o2_c3 sq li x3_8).bind (fun r_c24 => (if (x3_8 < 0 ∨ 32 ≤ x3_8.toNatClampNeg) then none else a_fp_search_L8 sq li o0_3_c3 o1_c3 o2_c3 n (upd a3_8 x3_8.toNatClampNeg r_c24) (x3_8 + (1 : Int32))))))
def a_fp_search (N : Nat) (xs : Nat → Int32) (ys : Nat → Int32) (os : Nat → Int32) (sq : Int64) (li : Int64) (co : Int64) (dn : Int32) (dq : Int64) (dr : Nat → Int32) : Option ((Nat → Int32) × (Nat → Int32) × (Nat → Int32) × Int32) := ((a_fp_collect N xs ys sq li co dn dq dr).bind (fun (o1_c3, o2_c3, o0_3_c3) => a_fp_search_L8 sq li o0_3_c3 o1_c3 o2_c3 N os (0 : Int32)))
set_option maxHeartbeats 4000000 in
set_option maxRecDepth 100000 in
theorem w_a_fp_search (l : Launch) (D : va_G) (cI cJ : ClassId) (qf : Nat) (qx : Nat) (qy : Nat) (qo : Nat) (fn : Int32) (xs : Nat → Int32) (ys : Nat → Int32) (os : Nat → Int32) (qu : Nat) (qr : Nat) (sq : Int64) (li : Int64) (co : Int64) (di : Int64) (rc : Nat → Int32) (qd : Nat) (qw : Nat) (dn : Int32) (dq : Int64) (dr : Nat → Int32) (N : Nat) (r0 : Nat → Int32) (r1 : Nat → Int32) (r2 : Nat → Int32) (r3 : Int32) (hm : a_fp_search N xs ys os sq li co dn dq dr = some (r0, r1, r2, r3)) : Met l y_fp_search zs_fp_search rm_fp_search (zPc [.ref qf, .ref qu, .ref qd] D [(qf, .inr (1, [.ref qx, .ref qy, .ref qo, .int fn])), (qx, .inl (cI, 32, .inl xs)), (qy, .inl (cI, 32, .inl ys)), (qo, .inl (cI, 32, .inl os)), (qu, .inr (0, [.long sq, .long li, .long co, .long di, .ref qr])), (qr, .inl (cI, 97, .inl rc)), (qd, .inr (2, [.ref qw, .int dn, .long dq])), (qw, .inl (cI, 64, .inl dr))] [(cI, .int), (cJ, .long)]) (zWr none D (zIn [(qf, .inr (1, [.ref qx, .ref qy, .ref qo, .int fn])), (qx, .inl (cI, 32, .inl xs)), (qy, .inl (cI, 32, .inl ys)), (qo, .inl (cI, 32, .inl os)), (qu, .inr (0, [.long sq, .long li, .long co, .long di, .ref qr])), (qr, .inl (cI, 97, .inl rc)), (qd, .inr (2, [.ref qw, .int dn, .long dq])), (qw, .inl (cI, 64, .inl dr))]) [(qf, .inr (1, [.ref qx, .ref qy, .ref qo, .int r3])), (qx, .inl (cI, 32, .inl r0)), (qy, .inl (cI, 32, .inl r1)), (qo, .inl (cI, 32, .inl r2)), (qu, .inr (0, [.long sq, .long li, .long co, .long di, .ref qr])), (qr, .inl (cI, 97, .inl rc)), (qd, .inr (2, [.ref qw, .int dn, .long dq])), (qw, .inl (cI, 64, .inl dr))]) 0 0 (zIn [(qf, .inr (1, [.ref qx, .ref qy, .ref qo, .int fn])), (qx, .inl (cI, 32, .inl xs)), (qy, .inl (cI, 32, .inl ys)), (qo, .inl (cI, 32, .inl os)), (qu, .inr (0, [.long sq, .long li, .long co, .long di, .ref qr])), (qr, .inl (cI, 97, .inl rc)), (qd, .inr (2, [.ref qw, .int dn, .long dq])), (qw, .inl (cI, 64, .inl dr))]) := by
  refine zm (by decide) (Nat.le_of_ble_eq_true rfl) ?_
  intro p e s m args below meth c R Q hR hQ hargs hx hb hml hr hlocks hnm hB hown hP hK hD0 ls hl
  have hown : s.vm.findClass "TorsionDesk$FinitePoints" = some m.cls := hown
  have hl : lv_has ls 4 [(0, .ref qf), (1, .ref qu), (2, .ref qd)] := hl
  obtain ⟨A, hA⟩ : ∃ A, A = zIn [(qf, .inr (1, [.ref qx, .ref qy, .ref qo, .int fn])), (qx, .inl (cI, 32, .inl xs)), (qy, .inl (cI, 32, .inl ys)), (qo, .inl (cI, 32, .inl os)), (qu, .inr (0, [.long sq, .long li, .long co, .long di, .ref qr])), (qr, .inl (cI, 97, .inl rc)), (qd, .inr (2, [.ref qw, .int dn, .long dq])), (qw, .inl (cI, 64, .inl dr))] := ⟨_, rfl⟩
  have hD : va_D A [(qf, .inr (1, [.ref qx, .ref qy, .ref qo, .int fn])), (qx, .inl (cI, 32, .inl xs)), (qy, .inl (cI, 32, .inl ys)), (qo, .inl (cI, 32, .inl os)), (qu, .inr (0, [.long sq, .long li, .long co, .long di, .ref qr])), (qr, .inl (cI, 97, .inl rc)), (qd, .inr (2, [.ref qw, .int dn, .long dq])), (qw, .inl (cI, 64, .inl dr))] := by rw [hA]; exact zIn_self hD0
  have hS : va_S A s.heap s.heap [] := va_S.rf
  rw [← hA] at hQ
  have k8 : ∀ (o0_3_c3 : Int32) (o1_c3 : Nat → Int32) (o2_c3 : Nat → Int32) (n : Nat) (a3_8 : Nat → Int32) (x3_8 : Int32) (H : Heap) (locs : List Loc) (ls : Array Slot), lv_has ls 4 [(0, .ref qf), (1, .ref qu), (3, .int x3_8)] → va_P D vwCl [(qf, .inr (1, [.ref qx, .ref qy, .ref qo, .int o0_3_c3])), (qx, .inl (cI, 32, .inl o1_c3)), (qy, .inl (cI, 32, .inl o2_c3)), (qo, .inl (cI, 32, .inl a3_8)), (qu, .inr (0, [.long sq, .long li, .long co, .long di, .ref qr])), (qr, .inl (cI, 97, .inl rc)), (qd, .inr (2, [.ref qw, .int dn, .long dq])), (qw, .inl (cI, 64, .inl dr))] H → va_D A [(qf, .inr (1, [.ref qx, .ref qy, .ref qo, .int o0_3_c3])), (qx, .inl (cI, 32, .inl o1_c3)), (qy, .inl (cI, 32, .inl o2_c3)), (qo, .inl (cI, 32, .inl a3_8)), (qu, .inr (0, [.long sq, .long li, .long co, .long di, .ref qr])), (qr, .inl (cI, 97, .inl rc)), (qd, .inr (2, [.ref qw, .int dn, .long dq])), (qw, .inl (cI, 64, .inl dr))] → va_S A s.heap H locs → a_fp_search_L8 sq li o0_3_c3 o1_c3 o2_c3 n a3_8 x3_8 = some (r0, r1, r2, r3) → W p l e R s m args below meth c H locs 0 0 Q (F0 m 8 ls []) := by
    intro o0_3_c3 o1_c3 o2_c3 n
    induction n with
    | zero => intro a3_8 x3_8  H locs ls hl hP hD hS hm; rw [a_fp_search_L8] at hm; cases hm
    | succ n ih =>
      intro a3_8 x3_8  H locs ls hl hP hD hS hm
      rw [a_fp_search_L8] at hm
      refine lv_iload_n (pc := 8) hx hb d_fp_search_8 rfl (lv_at hl 2 rfl) ?_
      refine lv_aload_n (pc := 9) hx hb d_fp_search_9 rfl (lv_at hl 0 rfl) ?_
      refine va_get (pc := 10) (D := D) (ci := 1) (v := .int o0_3_c3) (C := "TorsionDesk$FinitePoints") (T := tX1) (N := 4) hx hb hB lX1 hown hK hP 0 rfl rfl 3 (by decide) (hB _ zw_78) (fun _ h9 => h9) rfl d_fp_search_10 ?_
      refine lv_icmp_ge (pc := 13) (tgt := 34) hx hb d_fp_search_13 rfl (fun h1 => ?_) (fun h1 => ?_)
      · rw [if_pos h1] at hm
        refine lv_aload_n (pc := 34) hx hb d_fp_search_34 rfl (lv_at hl 0 rfl) ?_
        obtain ⟨⟨o1_c35, o2_c35, o3_c35, o0_3_c35⟩, c2, hm⟩ := zbind hm
        try dsimp only at hm
        refine zwV (pc := 35) (As := []) (rest := []) ⟨hx, hb, hml, hown, hB⟩ (w_a_fp_keepFinite l D cI cJ qf qx qy qo o0_3_c3 o1_c3 o2_c3 a3_8 n o1_c35 o2_c35 o3_c35 o0_3_c35 c2) (cwV 0 hB (zgV zw_378 zw_380 zv_fp_keepFinite zw_4 zw_381) rfl rfl rfl (by decide +kernel) ⟨by rw [hR]; exact Nat.le_of_ble_eq_true rfl, by rw [hR]; exact Nat.le_of_ble_eq_true rfl⟩) hK hP hD hS [0, 1, 2, 3] (by decide) rfl rfl rfl rfl rfl rfl hl.1 rfl (Nat.le_of_ble_eq_true rfl) d_fp_search_35 ⟨Nat.zero_le _, Nat.zero_le _⟩ (fun H locs hP hD hS => ?_)
        have hP : va_P D vwCl [(qf, .inr (1, [.ref qx, .ref qy, .ref qo, .int o0_3_c35])), (qx, .inl (cI, 32, .inl o1_c35)), (qy, .inl (cI, 32, .inl o2_c35)), (qo, .inl (cI, 32, .inl o3_c35)), (qu, .inr (0, [.long sq, .long li, .long co, .long di, .ref qr])), (qr, .inl (cI, 97, .inl rc)), (qd, .inr (2, [.ref qw, .int dn, .long dq])), (qw, .inl (cI, 64, .inl dr))] H := hP
        have hD : va_D A [(qf, .inr (1, [.ref qx, .ref qy, .ref qo, .int o0_3_c35])), (qx, .inl (cI, 32, .inl o1_c35)), (qy, .inl (cI, 32, .inl o2_c35)), (qo, .inl (cI, 32, .inl o3_c35)), (qu, .inr (0, [.long sq, .long li, .long co, .long di, .ref qr])), (qr, .inl (cI, 97, .inl rc)), (qd, .inr (2, [.ref qw, .int dn, .long dq])), (qw, .inl (cI, 64, .inl dr))] := hD
        cases hm
        rw [hQ]
        exact W.vret (pc := 38) hx hb hr (fun t ht _ => ⟨rfl, by rw [ht]; exact hP, hS.F ht⟩) hS.2.2 d_fp_search_38
      rw [if_neg h1] at hm
      refine lv_aload_n (pc := 16) hx hb d_fp_search_16 rfl (lv_at hl 0 rfl) ?_
      refine va_get (pc := 17) (D := D) (ci := 1) (v := .ref qo) (C := "TorsionDesk$FinitePoints") (T := tX1) (N := 4) hx hb hB lX1 hown hK hP 0 rfl rfl 2 (by decide) (hB _ zw_76) (fun _ h9 => h9) rfl d_fp_search_17 ?_
      refine lv_iload_n (pc := 20) hx hb d_fp_search_20 rfl (lv_at hl 2 rfl) ?_
      refine lv_aload_n (pc := 21) hx hb d_fp_search_21 rfl (lv_at hl 0 rfl) ?_
      refine lv_aload_n (pc := 22) hx hb d_fp_search_22 rfl (lv_at hl 1 rfl) ?_
      refine lv_iload_n (pc := 23) hx hb d_fp_search_23 rfl (lv_at hl 2 rfl) ?_
      obtain ⟨r_c24, c3, hm⟩ := zbind hm
      try dsimp only at hm
      refine zcV (pc := 24) (As := [.ref qu, .int x3_8]) (rest := [.int x3_8, .ref qo]) ⟨hx, hb, hml, hown, hB⟩ (w_a_fp_orderOf l D cI cJ qf qx qy qo o0_3_c3 o1_c3 o2_c3 a3_8 qu qr sq li co di rc x3_8 n r_c24 c3) (cwV 2 hB (zgV zw_374 zw_376 zv_fp_orderOf zw_4 zw_377) rfl rfl rfl (by decide +kernel) ⟨by rw [hR]; exact Nat.le_of_ble_eq_true rfl, by rw [hR]; exact Nat.le_of_ble_eq_true rfl⟩) hK (hP.sub (ws' := [(qf, .inr (1, [.ref qx, .ref qy, .ref qo, .int o0_3_c3])), (qx, .inl (cI, 32, .inl o1_c3)), (qy, .inl (cI, 32, .inl o2_c3)), (qo, .inl (cI, 32, .inl a3_8)), (qu, .inr (0, [.long sq, .long li, .long co, .long di, .ref qr])), (qr, .inl (cI, 97, .inl rc))]) [0, 1, 2, 3, 4, 5] rfl) (hD.sub (ws' := [(qf, .inr (1, [.ref qx, .ref qy, .ref qo, .int o0_3_c3])), (qx, .inl (cI, 32, .inl o1_c3)), (qy, .inl (cI, 32, .inl o2_c3)), (qo, .inl (cI, 32, .inl a3_8)), (qu, .inr (0, [.long sq, .long li, .long co, .long di, .ref qr])), (qr, .inl (cI, 97, .inl rc))]) [0, 1, 2, 3, 4, 5] (by decide) rfl) rfl rfl rfl rfl hl.1 rfl (Nat.le_of_ble_eq_true rfl) d_fp_search_24 ⟨Nat.zero_le _, Nat.zero_le _⟩ ?_
      by_cases g4 : (x3_8 < 0 ∨ 32 ≤ x3_8.toNatClampNeg)
      · rw [if_pos g4] at hm; cases hm
      rw [if_neg g4] at hm
      refine va_iast (pc := 27) hx hb hK hP hD hS 3 0 rfl rfl g4 d_fp_search_27 (fun H locs hP hD hS => ?_)
      have hP : va_P D vwCl [(qf, .inr (1, [.ref qx, .ref qy, .ref qo, .int o0_3_c3])), (qx, .inl (cI, 32, .inl o1_c3)), (qy, .inl (cI, 32, .inl o2_c3)), (qo, .inl (cI, 32, .inl (upd a3_8 x3_8.toNatClampNeg r_c24))), (qu, .inr (0, [.long sq, .long li, .long co, .long di, .ref qr])), (qr, .inl (cI, 97, .inl rc)), (qd, .inr (2, [.ref qw, .int dn, .long dq])), (qw, .inl (cI, 64, .inl dr))] H := hP
      have hD : va_D A [(qf, .inr (1, [.ref qx, .ref qy, .ref qo, .int o0_3_c3])), (qx, .inl (cI, 32, .inl o1_c3)), (qy, .inl (cI, 32, .inl o2_c3)), (qo, .inl (cI, 32, .inl (upd a3_8 x3_8.toNatClampNeg r_c24))), (qu, .inr (0, [.long sq, .long li, .long co, .long di, .ref qr])), (qr, .inl (cI, 97, .inl rc)), (qd, .inr (2, [.ref qw, .int dn, .long dq])), (qw, .inl (cI, 64, .inl dr))] := hD
      refine lv_iinc (pc := 28) (k := 2) (v := x3_8 + (1 : Int32)) (lv' := [(3, .int (x3_8 + (1 : Int32))), (0, .ref qf), (1, .ref qu)]) hx hb d_fp_search_28 hl rfl (congrArg (x3_8 + ·) (by decide)) (Nat.le_of_ble_eq_true rfl) rfl (fun ls hl => ?_)
      refine lv_goto (pc := 31) (tgt := 8) hx hb d_fp_search_31 rfl ?_
      exact ih (upd a3_8 x3_8.toNatClampNeg r_c24) (x3_8 + (1 : Int32)) H locs ls (lv_sub hl [1, 2, 0] rfl) hP hD hS hm
  have main : ∀ (H : Heap) (locs : List Loc), va_P D vwCl [(qf, .inr (1, [.ref qx, .ref qy, .ref qo, .int fn])), (qx, .inl (cI, 32, .inl xs)), (qy, .inl (cI, 32, .inl ys)), (qo, .inl (cI, 32, .inl os)), (qu, .inr (0, [.long sq, .long li, .long co, .long di, .ref qr])), (qr, .inl (cI, 97, .inl rc)), (qd, .inr (2, [.ref qw, .int dn, .long dq])), (qw, .inl (cI, 64, .inl dr))] H → va_D A [(qf, .inr (1, [.ref qx, .ref qy, .ref qo, .int fn])), (qx, .inl (cI, 32, .inl xs)), (qy, .inl (cI, 32, .inl ys)), (qo, .inl (cI, 32, .inl os)), (qu, .inr (0, [.long sq, .long li, .long co, .long di, .ref qr])), (qr, .inl (cI, 97, .inl rc)), (qd, .inr (2, [.ref qw, .int dn, .long dq])), (qw, .inl (cI, 64, .inl dr))] → va_S A s.heap H locs → W p l e R s m args below meth c H locs 0 0 Q (F0 m 0 ls []) := by
    intro H locs hP hD hS
    rw [a_fp_search] at hm
    refine lv_aload_n (pc := 0) hx hb d_fp_search_0 rfl (lv_at hl 0 rfl) ?_
    refine lv_aload_n (pc := 1) hx hb d_fp_search_1 rfl (lv_at hl 1 rfl) ?_
    refine lv_aload_n (pc := 2) hx hb d_fp_search_2 rfl (lv_at hl 2 rfl) ?_
    obtain ⟨⟨o1_c3, o2_c3, o0_3_c3⟩, c1, hm⟩ := zbind hm
    try dsimp only at hm
    refine zwV (pc := 3) (As := [.ref qu, .ref qd]) (rest := []) ⟨hx, hb, hml, hown, hB⟩ (w_a_fp_collect l D cI cJ qf qx qy qo fn xs ys os qu qr sq li co di rc qd qw dn dq dr N o1_c3 o2_c3 o0_3_c3 c1) (cwV 2 hB (zgV zw_361 zw_363 zv_fp_collect zw_4 zw_364) rfl rfl rfl (by decide +kernel) ⟨by rw [hR]; exact Nat.le_of_ble_eq_true rfl, by rw [hR]; exact Nat.le_of_ble_eq_true rfl⟩) hK hP hD hS [0, 1, 2, 3, 4, 5, 6, 7] (by decide) rfl rfl rfl rfl rfl rfl hl.1 rfl (Nat.le_of_ble_eq_true rfl) d_fp_search_3 ⟨Nat.zero_le _, Nat.zero_le _⟩ (fun H locs hP hD hS => ?_)
    have hP : va_P D vwCl [(qf, .inr (1, [.ref qx, .ref qy, .ref qo, .int o0_3_c3])), (qx, .inl (cI, 32, .inl o1_c3)), (qy, .inl (cI, 32, .inl o2_c3)), (qo, .inl (cI, 32, .inl os)), (qu, .inr (0, [.long sq, .long li, .long co, .long di, .ref qr])), (qr, .inl (cI, 97, .inl rc)), (qd, .inr (2, [.ref qw, .int dn, .long dq])), (qw, .inl (cI, 64, .inl dr))] H := hP
    have hD : va_D A [(qf, .inr (1, [.ref qx, .ref qy, .ref qo, .int o0_3_c3])), (qx, .inl (cI, 32, .inl o1_c3)), (qy, .inl (cI, 32, .inl o2_c3)), (qo, .inl (cI, 32, .inl os)), (qu, .inr (0, [.long sq, .long li, .long co, .long di, .ref qr])), (qr, .inl (cI, 97, .inl rc)), (qd, .inr (2, [.ref qw, .int dn, .long dq])), (qw, .inl (cI, 64, .inl dr))] := hD
    refine lv_iconst (pc := 6) (v := (0 : Int32)) hx hb d_fp_search_6 (by decide) ?_
    refine lv_istore_n (pc := 7) (lv' := [(3, .int (0 : Int32)), (0, .ref qf), (1, .ref qu), (2, .ref qd)]) hx hb d_fp_search_7 rfl hl (Nat.le_of_ble_eq_true rfl) rfl (fun ls hl => ?_)
    exact k8 o0_3_c3 o1_c3 o2_c3 N os (0 : Int32) H locs ls (lv_sub hl [1, 2, 0] rfl) hP hD hS hm
  exact main s.heap [] hP hD hS
abbrev rm_fp_multiple : Room := { frames := 2, cells := 0, slots := 0, locals := 61 }
def a_fp_multiple_L41 (fn : Int32) (xs : Nat → Int32) (ys : Nat → Int32) (sq : Int64) (li : Int64) (i3 : Int32) : Nat → Int32 → Int32 → Int32 → Option (Int32)
  | 0, _, _, _ => none
  | n + 1, x5_41, x6_41, x7_41 => (if x5_41 ≤ x7_41 then (some x6_41) else ((a_fp_added n fn xs ys sq li x6_41 i3).bind (fun r_c53 => a_fp_multiple_L41 fn xs ys sq li i3 n x5_41 r_c53 (x7_41 + (1 : Int32)))))
def a_fp_multiple (N : Nat) (fn : Int32) (xs : Nat → Int32) (ys : Nat → Int32) (os : Nat → Int32) (sq : Int64) (li : Int64) (i2 : Int32) (i3 : Int32) : Option (Int32) := (if (a_fp_has fn i3) = 0 then (some (-1 : Int32)) else (if (i3 < 0 ∨ 32 ≤ i3.toNatClampNeg) then none else (if (os i3.toNatClampNeg) ≤ 0 then a_fp_multiple_L41 fn xs ys sq li i3 N (0 : Int32) (0 : Int32) (0 : Int32) else ((a_ma_floorMod_IIx i2 (os i3.toNatClampNeg)).bind (fun r_c26 => a_fp_multiple_L41 fn xs ys sq li i3 N r_c26 (0 : Int32) (0 : Int32))))))
set_option maxHeartbeats 4000000 in
set_option maxRecDepth 100000 in
theorem w_a_fp_multiple (l : Launch) (D : va_G) (cI cJ : ClassId) (qf : Nat) (qx : Nat) (qy : Nat) (qo : Nat) (fn : Int32) (xs : Nat → Int32) (ys : Nat → Int32) (os : Nat → Int32) (qu : Nat) (qr : Nat) (sq : Int64) (li : Int64) (co : Int64) (di : Int64) (rc : Nat → Int32) (i2 : Int32) (i3 : Int32) (N : Nat) (r0 : Int32) (hm : a_fp_multiple N fn xs ys os sq li i2 i3 = some r0) : Met l y_fp_multiple zs_fp_multiple rm_fp_multiple (zPc [.ref qf, .ref qu, .int i2, .int i3] D [(qf, .inr (1, [.ref qx, .ref qy, .ref qo, .int fn])), (qx, .inl (cI, 32, .inl xs)), (qy, .inl (cI, 32, .inl ys)), (qo, .inl (cI, 32, .inl os)), (qu, .inr (0, [.long sq, .long li, .long co, .long di, .ref qr])), (qr, .inl (cI, 97, .inl rc))] [(cI, .int), (cJ, .long)]) (zRd (some (.int r0))) 0 0 (fun _ => False) := by
  refine zm (by decide) (Nat.le_of_ble_eq_true rfl) ?_
  intro p e s m args below meth c R Q hR hQ hargs hx hb hml hr hlocks hnm hB hown hP hK hD0 ls hl
  have hown : s.vm.findClass "TorsionDesk$FinitePoints" = some m.cls := hown
  have hl : lv_has ls 8 [(0, .ref qf), (1, .ref qu), (2, .int i2), (3, .int i3)] := hl
  have k41 : ∀ (n : Nat) (x5_41 : Int32) (x6_41 : Int32) (x7_41 : Int32) (ls : Array Slot), lv_has ls 8 [(0, .ref qf), (1, .ref qu), (3, .int i3), (5, .int x5_41), (6, .int x6_41), (7, .int x7_41)] → a_fp_multiple_L41 fn xs ys sq li i3 n x5_41 x6_41 x7_41 = some r0 → W p l e R s m args below meth c s.heap [] 0 0 Q (F0 m 41 ls []) := by
    intro n
    induction n with
    | zero => intro x5_41 x6_41 x7_41  ls hl hm; rw [a_fp_multiple_L41] at hm; cases hm
    | succ n ih =>
      intro x5_41 x6_41 x7_41  ls hl hm
      rw [a_fp_multiple_L41] at hm
      refine lv_iload (pc := 41) hx hb d_fp_multiple_41 (lv_at hl 5 rfl) ?_
      refine lv_iload (pc := 43) hx hb d_fp_multiple_43 (lv_at hl 3 rfl) ?_
      refine lv_icmp_ge (pc := 45) (tgt := 64) hx hb d_fp_multiple_45 rfl (fun h1 => ?_) (fun h1 => ?_)
      · rw [if_pos h1] at hm
        refine lv_iload (pc := 64) hx hb d_fp_multiple_64 (lv_at hl 4 rfl) ?_
        cases hm
        rw [hQ]
        exact W.iret (pc := 66) hx hb hr (fun t ht _ => ⟨rfl, ht⟩) (fun _ h9 => nomatch h9) d_fp_multiple_66
      rw [if_neg h1] at hm
      refine lv_aload_n (pc := 48) hx hb d_fp_multiple_48 rfl (lv_at hl 0 rfl) ?_
      refine lv_aload_n (pc := 49) hx hb d_fp_multiple_49 rfl (lv_at hl 1 rfl) ?_
      refine lv_iload (pc := 50) hx hb d_fp_multiple_50 (lv_at hl 4 rfl) ?_
      refine lv_iload_n (pc := 52) hx hb d_fp_multiple_52 rfl (lv_at hl 2 rfl) ?_
      obtain ⟨r_c53, c2, hm⟩ := zbind hm
      try dsimp only at hm
      refine zcV (pc := 53) (As := [.ref qu, .int x6_41, .int i3]) (rest := []) ⟨hx, hb, hml, hown, hB⟩ (w_a_fp_added l D cI cJ qf qx qy qo fn xs ys os qu qr sq li co di rc x6_41 i3 n r_c53 c2) (cwV 3 hB (zgV zw_167 zw_144 zw_145 zw_4 zw_146) rfl rfl rfl (by decide +kernel) ⟨by rw [hR]; exact Nat.le_of_ble_eq_true rfl, by rw [hR]; exact Nat.le_of_ble_eq_true rfl⟩) hK (hP.sub (ws' := [(qf, .inr (1, [.ref qx, .ref qy, .ref qo, .int fn])), (qx, .inl (cI, 32, .inl xs)), (qy, .inl (cI, 32, .inl ys)), (qo, .inl (cI, 32, .inl os)), (qu, .inr (0, [.long sq, .long li, .long co, .long di, .ref qr])), (qr, .inl (cI, 97, .inl rc))]) [0, 1, 2, 3, 4, 5] rfl) (hD0.sub (ws' := [(qf, .inr (1, [.ref qx, .ref qy, .ref qo, .int fn])), (qx, .inl (cI, 32, .inl xs)), (qy, .inl (cI, 32, .inl ys)), (qo, .inl (cI, 32, .inl os)), (qu, .inr (0, [.long sq, .long li, .long co, .long di, .ref qr])), (qr, .inl (cI, 97, .inl rc))]) [0, 1, 2, 3, 4, 5] (by decide) rfl) rfl rfl rfl rfl hl.1 rfl (Nat.le_of_ble_eq_true rfl) d_fp_multiple_53 ⟨Nat.zero_le _, Nat.zero_le _⟩ ?_
      refine lv_istore (pc := 56) (lv' := [(6, .int r_c53), (0, .ref qf), (1, .ref qu), (3, .int i3), (5, .int x5_41), (7, .int x7_41)]) hx hb d_fp_multiple_56 hl (Nat.le_of_ble_eq_true rfl) rfl (fun ls hl => ?_)
      refine lv_iinc (pc := 58) (k := 5) (v := x7_41 + (1 : Int32)) (lv' := [(7, .int (x7_41 + (1 : Int32))), (6, .int r_c53), (0, .ref qf), (1, .ref qu), (3, .int i3), (5, .int x5_41)]) hx hb d_fp_multiple_58 hl rfl (congrArg (x7_41 + ·) (by decide)) (Nat.le_of_ble_eq_true rfl) rfl (fun ls hl => ?_)
      refine lv_goto (pc := 61) (tgt := 41) hx hb d_fp_multiple_61 rfl ?_
      exact ih x5_41 r_c53 (x7_41 + (1 : Int32)) ls (lv_sub hl [2, 3, 4, 5, 1, 0] rfl) hm
  rw [a_fp_multiple] at hm
  refine lv_aload_n (pc := 0) hx hb d_fp_multiple_0 rfl (lv_at hl 0 rfl) ?_
  refine lv_iload_n (pc := 1) hx hb d_fp_multiple_1 rfl (lv_at hl 3 rfl) ?_
  refine zcV (pc := 2) (As := [.int i3]) (rest := []) ⟨hx, hb, hml, hown, hB⟩ (w_a_fp_has l D cI cJ qf qx qy qo fn xs ys os i3 _ rfl) (cwV 1 hB (zgV zw_147 zw_125 zw_126 zw_4 zw_127) rfl rfl rfl (by decide +kernel) ⟨by rw [hR]; exact Nat.le_of_ble_eq_true rfl, by rw [hR]; exact Nat.le_of_ble_eq_true rfl⟩) hK (hP.sub (ws' := [(qf, .inr (1, [.ref qx, .ref qy, .ref qo, .int fn])), (qx, .inl (cI, 32, .inl xs)), (qy, .inl (cI, 32, .inl ys)), (qo, .inl (cI, 32, .inl os))]) [0, 1, 2, 3] rfl) (hD0.sub (ws' := [(qf, .inr (1, [.ref qx, .ref qy, .ref qo, .int fn])), (qx, .inl (cI, 32, .inl xs)), (qy, .inl (cI, 32, .inl ys)), (qo, .inl (cI, 32, .inl os))]) [0, 1, 2, 3] (by decide) rfl) rfl rfl rfl rfl hl.1 rfl (Nat.le_of_ble_eq_true rfl) d_fp_multiple_2 ⟨Nat.zero_le _, Nat.zero_le _⟩ ?_
  refine lv_if_ne (pc := 5) (tgt := 10) hx hb d_fp_multiple_5 rfl (fun h1 => ?_) (fun h1 => ?_)
  · rw [if_neg h1] at hm
    refine lv_aload_n (pc := 10) hx hb d_fp_multiple_10 rfl (lv_at hl 0 rfl) ?_
    refine va_get (pc := 11) (D := D) (ci := 1) (v := .ref qo) (C := "TorsionDesk$FinitePoints") (T := tX1) (N := 4) hx hb hB lX1 hown hK hP 0 rfl rfl 2 (by decide) (hB _ zw_76) (fun _ h9 => h9) rfl d_fp_multiple_11 ?_
    refine lv_iload_n (pc := 14) hx hb d_fp_multiple_14 rfl (lv_at hl 3 rfl) ?_
    by_cases g2 : (i3 < 0 ∨ 32 ≤ i3.toNatClampNeg)
    · rw [if_pos g2] at hm; cases hm
    rw [if_neg g2] at hm
    refine va_iald (pc := 15) hx hb hK hP 3 0 rfl rfl g2 d_fp_multiple_15 ?_
    refine lv_istore (pc := 16) (lv' := [(4, .int (os i3.toNatClampNeg)), (0, .ref qf), (1, .ref qu), (2, .int i2), (3, .int i3)]) hx hb d_fp_multiple_16 hl (Nat.le_of_ble_eq_true rfl) rfl (fun ls hl => ?_)
    refine lv_iload (pc := 18) hx hb d_fp_multiple_18 (lv_at hl 0 rfl) ?_
    refine lv_if_le (pc := 20) (tgt := 32) hx hb d_fp_multiple_20 rfl (fun h3 => ?_) (fun h3 => ?_)
    · rw [if_pos h3] at hm
      refine lv_iconst (pc := 32) (v := (0 : Int32)) hx hb d_fp_multiple_32 (by decide) ?_
      refine lv_istore (pc := 33) (lv' := [(5, .int (0 : Int32)), (4, .int (os i3.toNatClampNeg)), (0, .ref qf), (1, .ref qu), (2, .int i2), (3, .int i3)]) hx hb d_fp_multiple_33 hl (Nat.le_of_ble_eq_true rfl) rfl (fun ls hl => ?_)
      refine lv_iconst (pc := 35) (v := (0 : Int32)) hx hb d_fp_multiple_35 (by decide) ?_
      refine lv_istore (pc := 36) (lv' := [(6, .int (0 : Int32)), (5, .int (0 : Int32)), (4, .int (os i3.toNatClampNeg)), (0, .ref qf), (1, .ref qu), (2, .int i2), (3, .int i3)]) hx hb d_fp_multiple_36 hl (Nat.le_of_ble_eq_true rfl) rfl (fun ls hl => ?_)
      refine lv_iconst (pc := 38) (v := (0 : Int32)) hx hb d_fp_multiple_38 (by decide) ?_
      refine lv_istore (pc := 39) (lv' := [(7, .int (0 : Int32)), (6, .int (0 : Int32)), (5, .int (0 : Int32)), (4, .int (os i3.toNatClampNeg)), (0, .ref qf), (1, .ref qu), (2, .int i2), (3, .int i3)]) hx hb d_fp_multiple_39 hl (Nat.le_of_ble_eq_true rfl) rfl (fun ls hl => ?_)
      exact k41 N (0 : Int32) (0 : Int32) (0 : Int32) ls (lv_sub hl [4, 5, 7, 2, 1, 0] rfl) hm
    rw [if_neg h3] at hm
    refine lv_iload_n (pc := 23) hx hb d_fp_multiple_23 rfl (lv_at hl 3 rfl) ?_
    refine lv_iload (pc := 24) hx hb d_fp_multiple_24 (lv_at hl 0 rfl) ?_
    obtain ⟨r_c26, c4, hm⟩ := zbind hm
    try dsimp only at hm
    refine zcS (pc := 26) (As := [.int i2, .int (os i3.toNatClampNeg)]) (rest := []) ⟨hx, hb, hml, hown, hB⟩ (w_a_ma_floorMod_IIx l D cI cJ i2 (os i3.toNatClampNeg) r_c26 c4) (va_cwS 2 hB (zgS zw_164 zw_165 zw_11 zw_166) rfl rfl rfl (by decide +kernel) ⟨by rw [hR]; exact Nat.le_of_ble_eq_true rfl, by rw [hR]; exact Nat.le_of_ble_eq_true rfl⟩) hK (hP.sub (ws' := []) [] rfl) (hD0.sub (ws' := []) [] (by decide) rfl) rfl hl.1 rfl (Nat.le_of_ble_eq_true rfl) d_fp_multiple_26 ⟨Nat.zero_le _, Nat.zero_le _⟩ ?_
    refine lv_goto (pc := 29) (tgt := 33) hx hb d_fp_multiple_29 rfl ?_
    refine lv_istore (pc := 33) (lv' := [(5, .int r_c26), (4, .int (os i3.toNatClampNeg)), (0, .ref qf), (1, .ref qu), (2, .int i2), (3, .int i3)]) hx hb d_fp_multiple_33 hl (Nat.le_of_ble_eq_true rfl) rfl (fun ls hl => ?_)
    refine lv_iconst (pc := 35) (v := (0 : Int32)) hx hb d_fp_multiple_35 (by decide) ?_
    refine lv_istore (pc := 36) (lv' := [(6, .int (0 : Int32)), (5, .int r_c26), (4, .int (os i3.toNatClampNeg)), (0, .ref qf), (1, .ref qu), (2, .int i2), (3, .int i3)]) hx hb d_fp_multiple_36 hl (Nat.le_of_ble_eq_true rfl) rfl (fun ls hl => ?_)
    refine lv_iconst (pc := 38) (v := (0 : Int32)) hx hb d_fp_multiple_38 (by decide) ?_
    refine lv_istore (pc := 39) (lv' := [(7, .int (0 : Int32)), (6, .int (0 : Int32)), (5, .int r_c26), (4, .int (os i3.toNatClampNeg)), (0, .ref qf), (1, .ref qu), (2, .int i2), (3, .int i3)]) hx hb d_fp_multiple_39 hl (Nat.le_of_ble_eq_true rfl) rfl (fun ls hl => ?_)
    exact k41 N r_c26 (0 : Int32) (0 : Int32) ls (lv_sub hl [4, 5, 7, 2, 1, 0] rfl) hm
  rw [if_pos h1] at hm
  refine lv_iconst (pc := 8) (v := (-1 : Int32)) hx hb d_fp_multiple_8 (by decide) ?_
  cases hm
  rw [hQ]
  exact W.iret (pc := 9) hx hb hr (fun t ht _ => ⟨rfl, ht⟩) (fun _ h9 => nomatch h9) d_fp_multiple_9
abbrev rm_fp_greatestOrder : Room := { frames := 1, cells := 0, slots := 0, locals := 21 }
def a_fp_greatestOrder_L4 (fn : Int32) (os : Nat → Int32) : Nat → Int32 → Int32 → Option (Int32)
  | 0, _, _ => none
  | n + 1, x1_4, x2_4 => (if fn ≤ x2_4 then (some x1_4) else (if (x2_4 < 0 ∨ 32 ≤ x2_4.toNatClampNeg) then none else a_fp_greatestOrder_L4 fn os n (a_ma_max x1_4 (os x2_4.toNatClampNeg)) (x2_4 + (1 : Int32))))
def a_fp_greatestOrder (N : Nat) (fn : Int32) (os : Nat → Int32) : Option (Int32) := a_fp_greatestOrder_L4 fn os N (1 : Int32) (0 : Int32)
set_option maxHeartbeats 4000000 in
set_option maxRecDepth 100000 in
theorem w_a_fp_greatestOrder (l : Launch) (D : va_G) (cI cJ : ClassId) (qf : Nat) (qx : Nat) (qy : Nat) (qo : Nat) (fn : Int32) (xs : Nat → Int32) (ys : Nat → Int32) (os : Nat → Int32) (N : Nat) (r0 : Int32) (hm : a_fp_greatestOrder N fn os = some r0) : Met l y_fp_greatestOrder zs_fp_greatestOrder rm_fp_greatestOrder (zPc [.ref qf] D [(qf, .inr (1, [.ref qx, .ref qy, .ref qo, .int fn])), (qx, .inl (cI, 32, .inl xs)), (qy, .inl (cI, 32, .inl ys)), (qo, .inl (cI, 32, .inl os))] [(cI, .int), (cJ, .long)]) (zRd (some (.int r0))) 0 0 (fun _ => False) := by
  refine zm (by decide) (Nat.le_of_ble_eq_true rfl) ?_
  intro p e s m args below meth c R Q hR hQ hargs hx hb hml hr hlocks hnm hB hown hP hK hD0 ls hl
  have hown : s.vm.findClass "TorsionDesk$FinitePoints" = some m.cls := hown
  have hl : lv_has ls 3 [(0, .ref qf)] := hl
  have k4 : ∀ (n : Nat) (x1_4 : Int32) (x2_4 : Int32) (ls : Array Slot), lv_has ls 3 [(0, .ref qf), (1, .int x1_4), (2, .int x2_4)] → a_fp_greatestOrder_L4 fn os n x1_4 x2_4 = some r0 → W p l e R s m args below meth c s.heap [] 0 0 Q (F0 m 4 ls []) := by
    intro n
    induction n with
    | zero => intro x1_4 x2_4  ls hl hm; rw [a_fp_greatestOrder_L4] at hm; cases hm
    | succ n ih =>
      intro x1_4 x2_4  ls hl hm
      rw [a_fp_greatestOrder_L4] at hm
      refine lv_iload_n (pc := 4) hx hb d_fp_greatestOrder_4 rfl (lv_at hl 2 rfl) ?_
      refine lv_aload_n (pc := 5) hx hb d_fp_greatestOrder_5 rfl (lv_at hl 0 rfl) ?_
      refine va_get (pc := 6) (D := D) (ci := 1) (v := .int fn) (C := "TorsionDesk$FinitePoints") (T := tX1) (N := 4) hx hb hB lX1 hown hK hP 0 rfl rfl 3 (by decide) (hB _ zw_78) (fun _ h9 => h9) rfl d_fp_greatestOrder_6 ?_
      refine lv_icmp_ge (pc := 9) (tgt := 29) hx hb d_fp_greatestOrder_9 rfl (fun h1 => ?_) (fun h1 => ?_)
      · rw [if_pos h1] at hm
        refine lv_iload_n (pc := 29) hx hb d_fp_greatestOrder_29 rfl (lv_at hl 1 rfl) ?_
        cases hm
        rw [hQ]
        exact W.iret (pc := 30) hx hb hr (fun t ht _ => ⟨rfl, ht⟩) (fun _ h9 => nomatch h9) d_fp_greatestOrder_30
      rw [if_neg h1] at hm
      refine lv_iload_n (pc := 12) hx hb d_fp_greatestOrder_12 rfl (lv_at hl 1 rfl) ?_
      refine lv_aload_n (pc := 13) hx hb d_fp_greatestOrder_13 rfl (lv_at hl 0 rfl) ?_
      refine va_get (pc := 14) (D := D) (ci := 1) (v := .ref qo) (C := "TorsionDesk$FinitePoints") (T := tX1) (N := 4) hx hb hB lX1 hown hK hP 0 rfl rfl 2 (by decide) (hB _ zw_76) (fun _ h9 => h9) rfl d_fp_greatestOrder_14 ?_
      refine lv_iload_n (pc := 17) hx hb d_fp_greatestOrder_17 rfl (lv_at hl 2 rfl) ?_
      by_cases g2 : (x2_4 < 0 ∨ 32 ≤ x2_4.toNatClampNeg)
      · rw [if_pos g2] at hm; cases hm
      rw [if_neg g2] at hm
      refine va_iald (pc := 18) hx hb hK hP 3 0 rfl rfl g2 d_fp_greatestOrder_18 ?_
      refine zcS (pc := 19) (As := [.int x1_4, .int (os x2_4.toNatClampNeg)]) (rest := []) ⟨hx, hb, hml, hown, hB⟩ (w_a_ma_max l D cI cJ x1_4 (os x2_4.toNatClampNeg) _ rfl) (va_cwS 2 hB (zgS zw_180 zw_181 zw_11 zw_182) rfl rfl rfl (by decide +kernel) ⟨by rw [hR]; exact Nat.le_of_ble_eq_true rfl, by rw [hR]; exact Nat.le_of_ble_eq_true rfl⟩) hK (hP.sub (ws' := []) [] rfl) (hD0.sub (ws' := []) [] (by decide) rfl) rfl hl.1 rfl (Nat.le_of_ble_eq_true rfl) d_fp_greatestOrder_19 ⟨Nat.zero_le _, Nat.zero_le _⟩ ?_
      refine lv_istore_n (pc := 22) (lv' := [(1, .int (a_ma_max x1_4 (os x2_4.toNatClampNeg))), (0, .ref qf), (2, .int x2_4)]) hx hb d_fp_greatestOrder_22 rfl hl (Nat.le_of_ble_eq_true rfl) rfl (fun ls hl => ?_)
      refine lv_iinc (pc := 23) (k := 2) (v := x2_4 + (1 : Int32)) (lv' := [(2, .int (x2_4 + (1 : Int32))), (1, .int (a_ma_max x1_4 (os x2_4.toNatClampNeg))), (0, .ref qf)]) hx hb d_fp_greatestOrder_23 hl rfl (congrArg (x2_4 + ·) (by decide)) (Nat.le_of_ble_eq_true rfl) rfl (fun ls hl => ?_)
      refine lv_goto (pc := 26) (tgt := 4) hx hb d_fp_greatestOrder_26 rfl ?_
      exact ih (a_ma_max x1_4 (os x2_4.toNatClampNeg)) (x2_4 + (1 : Int32)) ls (lv_sub hl [2, 1, 0] rfl) hm
  rw [a_fp_greatestOrder] at hm
  refine lv_iconst (pc := 0) (v := (1 : Int32)) hx hb d_fp_greatestOrder_0 (by decide) ?_
  refine lv_istore_n (pc := 1) (lv' := [(1, .int (1 : Int32)), (0, .ref qf)]) hx hb d_fp_greatestOrder_1 rfl hl (Nat.le_of_ble_eq_true rfl) rfl (fun ls hl => ?_)
  refine lv_iconst (pc := 2) (v := (0 : Int32)) hx hb d_fp_greatestOrder_2 (by decide) ?_
  refine lv_istore_n (pc := 3) (lv' := [(2, .int (0 : Int32)), (1, .int (1 : Int32)), (0, .ref qf)]) hx hb d_fp_greatestOrder_3 rfl hl (Nat.le_of_ble_eq_true rfl) rfl (fun ls hl => ?_)
  exact k4 N (1 : Int32) (0 : Int32) ls (lv_sub hl [2, 1, 0] rfl) hm
abbrev rm_fp_smallerFactor : Room := { frames := 2, cells := 0, slots := 0, locals := 43 }
def a_fp_smallerFactor (N : Nat) (fn : Int32) (os : Nat → Int32) : Option (Int32) := ((a_fp_greatestOrder N fn os).bind (fun r_c1 => (if r_c1 ≤ 0 then (some (-1 : Int32)) else (if r_c1 = 0 then none else (some (fn / r_c1))))))
set_option maxHeartbeats 4000000 in
set_option maxRecDepth 100000 in
theorem w_a_fp_smallerFactor (l : Launch) (D : va_G) (cI cJ : ClassId) (qf : Nat) (qx : Nat) (qy : Nat) (qo : Nat) (fn : Int32) (xs : Nat → Int32) (ys : Nat → Int32) (os : Nat → Int32) (N : Nat) (r0 : Int32) (hm : a_fp_smallerFactor N fn os = some r0) : Met l y_fp_smallerFactor zs_fp_smallerFactor rm_fp_smallerFactor (zPc [.ref qf] D [(qf, .inr (1, [.ref qx, .ref qy, .ref qo, .int fn])), (qx, .inl (cI, 32, .inl xs)), (qy, .inl (cI, 32, .inl ys)), (qo, .inl (cI, 32, .inl os))] [(cI, .int), (cJ, .long)]) (zRd (some (.int r0))) 0 0 (fun _ => False) := by
  refine zm (by decide) (Nat.le_of_ble_eq_true rfl) ?_
  intro p e s m args below meth c R Q hR hQ hargs hx hb hml hr hlocks hnm hB hown hP hK hD0 ls hl
  have hown : s.vm.findClass "TorsionDesk$FinitePoints" = some m.cls := hown
  have hl : lv_has ls 2 [(0, .ref qf)] := hl
  rw [a_fp_smallerFactor] at hm
  refine lv_aload_n (pc := 0) hx hb d_fp_smallerFactor_0 rfl (lv_at hl 0 rfl) ?_
  obtain ⟨r_c1, c1, hm⟩ := zbind hm
  try dsimp only at hm
  refine zcV (pc := 1) (As := []) (rest := []) ⟨hx, hb, hml, hown, hB⟩ (w_a_fp_greatestOrder l D cI cJ qf qx qy qo fn xs ys os N r_c1 c1) (cwV 0 hB (zgV zw_176 zw_177 zw_178 zw_4 zw_179) rfl rfl rfl (by decide +kernel) ⟨by rw [hR]; exact Nat.le_of_ble_eq_true rfl, by rw [hR]; exact Nat.le_of_ble_eq_true rfl⟩) hK (hP.sub (ws' := [(qf, .inr (1, [.ref qx, .ref qy, .ref qo, .int fn])), (qx, .inl (cI, 32, .inl xs)), (qy, .inl (cI, 32, .inl ys)), (qo, .inl (cI, 32, .inl os))]) [0, 1, 2, 3] rfl) (hD0.sub (ws' := [(qf, .inr (1, [.ref qx, .ref qy, .ref qo, .int fn])), (qx, .inl (cI, 32, .inl xs)), (qy, .inl (cI, 32, .inl ys)), (qo, .inl (cI, 32, .inl os))]) [0, 1, 2, 3] (by decide) rfl) rfl rfl rfl rfl hl.1 rfl (Nat.le_of_ble_eq_true rfl) d_fp_smallerFactor_1 ⟨Nat.zero_le _, Nat.zero_le _⟩ ?_
  refine lv_istore_n (pc := 4) (lv' := [(1, .int r_c1), (0, .ref qf)]) hx hb d_fp_smallerFactor_4 rfl hl (Nat.le_of_ble_eq_true rfl) rfl (fun ls hl => ?_)
  refine lv_iload_n (pc := 5) hx hb d_fp_smallerFactor_5 rfl (lv_at hl 0 rfl) ?_
  refine lv_if_le (pc := 6) (tgt := 18) hx hb d_fp_smallerFactor_6 rfl (fun h2 => ?_) (fun h2 => ?_)
  · rw [if_pos h2] at hm
    refine lv_iconst (pc := 18) (v := (-1 : Int32)) hx hb d_fp_smallerFactor_18 (by decide) ?_
    cases hm
    rw [hQ]
    exact W.iret (pc := 19) hx hb hr (fun t ht _ => ⟨rfl, ht⟩) (fun _ h9 => nomatch h9) d_fp_smallerFactor_19
  rw [if_neg h2] at hm
  refine lv_aload_n (pc := 9) hx hb d_fp_smallerFactor_9 rfl (lv_at hl 1 rfl) ?_
  refine va_get (pc := 10) (D := D) (ci := 1) (v := .int fn) (C := "TorsionDesk$FinitePoints") (T := tX1) (N := 4) hx hb hB lX1 hown hK hP 0 rfl rfl 3 (by decide) (hB _ zw_78) (fun _ h9 => h9) rfl d_fp_smallerFactor_10 ?_
  refine lv_iload_n (pc := 13) hx hb d_fp_smallerFactor_13 rfl (lv_at hl 0 rfl) ?_
  by_cases g3 : r_c1 = 0
  · rw [if_pos g3] at hm; cases hm
  rw [if_neg g3] at hm
  refine lv_idiv (pc := 14) hx hb d_fp_smallerFactor_14 g3 ?_
  refine lv_goto (pc := 15) (tgt := 19) hx hb d_fp_smallerFactor_15 rfl ?_
  cases hm
  rw [hQ]
  exact W.iret (pc := 19) hx hb hr (fun t ht _ => ⟨rfl, ht⟩) (fun _ h9 => nomatch h9) d_fp_smallerFactor_19
abbrev rm_fp_greaterMaker : Room := { frames := 2, cells := 0, slots := 0, locals := 43 }
def a_fp_greaterMaker_L7 (fn : Int32) (os : Nat → Int32) (r_c1 : Int32) : Nat → Int32 → Option (Int32)
  | 0, _ => none
  | n + 1, x2_7 => (if fn ≤ x2_7 then (some (-1 : Int32)) else (if (x2_7 < 0 ∨ 32 ≤ x2_7.toNatClampNeg) then none else (if (os x2_7.toNatClampNeg) = r_c1 then (some x2_7) else a_fp_greaterMaker_L7 fn os r_c1 n (x2_7 + (1 : Int32)))))
def a_fp_greaterMaker (N : Nat) (fn : Int32) (os : Nat → Int32) : Option (Int32) := ((a_fp_greatestOrder N fn os).bind (fun r_c1 => a_fp_greaterMaker_L7 fn os r_c1 N (0 : Int32)))
set_option maxHeartbeats 4000000 in
set_option maxRecDepth 100000 in
theorem w_a_fp_greaterMaker (l : Launch) (D : va_G) (cI cJ : ClassId) (qf : Nat) (qx : Nat) (qy : Nat) (qo : Nat) (fn : Int32) (xs : Nat → Int32) (ys : Nat → Int32) (os : Nat → Int32) (N : Nat) (r0 : Int32) (hm : a_fp_greaterMaker N fn os = some r0) : Met l y_fp_greaterMaker zs_fp_greaterMaker rm_fp_greaterMaker (zPc [.ref qf] D [(qf, .inr (1, [.ref qx, .ref qy, .ref qo, .int fn])), (qx, .inl (cI, 32, .inl xs)), (qy, .inl (cI, 32, .inl ys)), (qo, .inl (cI, 32, .inl os))] [(cI, .int), (cJ, .long)]) (zRd (some (.int r0))) 0 0 (fun _ => False) := by
  refine zm (by decide) (Nat.le_of_ble_eq_true rfl) ?_
  intro p e s m args below meth c R Q hR hQ hargs hx hb hml hr hlocks hnm hB hown hP hK hD0 ls hl
  have hown : s.vm.findClass "TorsionDesk$FinitePoints" = some m.cls := hown
  have hl : lv_has ls 3 [(0, .ref qf)] := hl
  have k7 : ∀ (r_c1 : Int32) (n : Nat) (x2_7 : Int32) (ls : Array Slot), lv_has ls 3 [(0, .ref qf), (1, .int r_c1), (2, .int x2_7)] → a_fp_greaterMaker_L7 fn os r_c1 n x2_7 = some r0 → W p l e R s m args below meth c s.heap [] 0 0 Q (F0 m 7 ls []) := by
    intro r_c1 n
    induction n with
    | zero => intro x2_7  ls hl hm; rw [a_fp_greaterMaker_L7] at hm; cases hm
    | succ n ih =>
      intro x2_7  ls hl hm
      rw [a_fp_greaterMaker_L7] at hm
      refine lv_iload_n (pc := 7) hx hb d_fp_greaterMaker_7 rfl (lv_at hl 2 rfl) ?_
      refine lv_aload_n (pc := 8) hx hb d_fp_greaterMaker_8 rfl (lv_at hl 0 rfl) ?_
      refine va_get (pc := 9) (D := D) (ci := 1) (v := .int fn) (C := "TorsionDesk$FinitePoints") (T := tX1) (N := 4) hx hb hB lX1 hown hK hP 0 rfl rfl 3 (by decide) (hB _ zw_78) (fun _ h9 => h9) rfl d_fp_greaterMaker_9 ?_
      refine lv_icmp_ge (pc := 12) (tgt := 33) hx hb d_fp_greaterMaker_12 rfl (fun h1 => ?_) (fun h1 => ?_)
      · rw [if_pos h1] at hm
        refine lv_iconst (pc := 33) (v := (-1 : Int32)) hx hb d_fp_greaterMaker_33 (by decide) ?_
        cases hm
        rw [hQ]
        exact W.iret (pc := 34) hx hb hr (fun t ht _ => ⟨rfl, ht⟩) (fun _ h9 => nomatch h9) d_fp_greaterMaker_34
      rw [if_neg h1] at hm
      refine lv_aload_n (pc := 15) hx hb d_fp_greaterMaker_15 rfl (lv_at hl 0 rfl) ?_
      refine va_get (pc := 16) (D := D) (ci := 1) (v := .ref qo) (C := "TorsionDesk$FinitePoints") (T := tX1) (N := 4) hx hb hB lX1 hown hK hP 0 rfl rfl 2 (by decide) (hB _ zw_76) (fun _ h9 => h9) rfl d_fp_greaterMaker_16 ?_
      refine lv_iload_n (pc := 19) hx hb d_fp_greaterMaker_19 rfl (lv_at hl 2 rfl) ?_
      by_cases g2 : (x2_7 < 0 ∨ 32 ≤ x2_7.toNatClampNeg)
      · rw [if_pos g2] at hm; cases hm
      rw [if_neg g2] at hm
      refine va_iald (pc := 20) hx hb hK hP 3 0 rfl rfl g2 d_fp_greaterMaker_20 ?_
      refine lv_iload_n (pc := 21) hx hb d_fp_greaterMaker_21 rfl (lv_at hl 1 rfl) ?_
      refine lv_icmp_ne (pc := 22) (tgt := 27) hx hb d_fp_greaterMaker_22 rfl (fun h3 => ?_) (fun h3 => ?_)
      · rw [if_neg h3] at hm
        refine lv_iinc (pc := 27) (k := 2) (v := x2_7 + (1 : Int32)) (lv' := [(2, .int (x2_7 + (1 : Int32))), (0, .ref qf), (1, .int r_c1)]) hx hb d_fp_greaterMaker_27 hl rfl (congrArg (x2_7 + ·) (by decide)) (Nat.le_of_ble_eq_true rfl) rfl (fun ls hl => ?_)
        refine lv_goto (pc := 30) (tgt := 7) hx hb d_fp_greaterMaker_30 rfl ?_
        exact ih (x2_7 + (1 : Int32)) ls (lv_sub hl [1, 2, 0] rfl) hm
      rw [if_pos h3] at hm
      refine lv_iload_n (pc := 25) hx hb d_fp_greaterMaker_25 rfl (lv_at hl 2 rfl) ?_
      cases hm
      rw [hQ]
      exact W.iret (pc := 26) hx hb hr (fun t ht _ => ⟨rfl, ht⟩) (fun _ h9 => nomatch h9) d_fp_greaterMaker_26
  rw [a_fp_greaterMaker] at hm
  refine lv_aload_n (pc := 0) hx hb d_fp_greaterMaker_0 rfl (lv_at hl 0 rfl) ?_
  obtain ⟨r_c1, c1, hm⟩ := zbind hm
  try dsimp only at hm
  refine zcV (pc := 1) (As := []) (rest := []) ⟨hx, hb, hml, hown, hB⟩ (w_a_fp_greatestOrder l D cI cJ qf qx qy qo fn xs ys os N r_c1 c1) (cwV 0 hB (zgV zw_176 zw_177 zw_178 zw_4 zw_179) rfl rfl rfl (by decide +kernel) ⟨by rw [hR]; exact Nat.le_of_ble_eq_true rfl, by rw [hR]; exact Nat.le_of_ble_eq_true rfl⟩) hK (hP.sub (ws' := [(qf, .inr (1, [.ref qx, .ref qy, .ref qo, .int fn])), (qx, .inl (cI, 32, .inl xs)), (qy, .inl (cI, 32, .inl ys)), (qo, .inl (cI, 32, .inl os))]) [0, 1, 2, 3] rfl) (hD0.sub (ws' := [(qf, .inr (1, [.ref qx, .ref qy, .ref qo, .int fn])), (qx, .inl (cI, 32, .inl xs)), (qy, .inl (cI, 32, .inl ys)), (qo, .inl (cI, 32, .inl os))]) [0, 1, 2, 3] (by decide) rfl) rfl rfl rfl rfl hl.1 rfl (Nat.le_of_ble_eq_true rfl) d_fp_greaterMaker_1 ⟨Nat.zero_le _, Nat.zero_le _⟩ ?_
  refine lv_istore_n (pc := 4) (lv' := [(1, .int r_c1), (0, .ref qf)]) hx hb d_fp_greaterMaker_4 rfl hl (Nat.le_of_ble_eq_true rfl) rfl (fun ls hl => ?_)
  refine lv_iconst (pc := 5) (v := (0 : Int32)) hx hb d_fp_greaterMaker_5 (by decide) ?_
  refine lv_istore_n (pc := 6) (lv' := [(2, .int (0 : Int32)), (1, .int r_c1), (0, .ref qf)]) hx hb d_fp_greaterMaker_6 rfl hl (Nat.le_of_ble_eq_true rfl) rfl (fun ls hl => ?_)
  exact k7 r_c1 N (0 : Int32) ls (lv_sub hl [2, 1, 0] rfl) hm
abbrev rm_fp_isMultiple : Room := { frames := 2, cells := 0, slots := 0, locals := 61 }
def a_fp_isMultiple_L6 (fn : Int32) (xs : Nat → Int32) (ys : Nat → Int32) (sq : Int64) (li : Int64) (i2 : Int32) (i3 : Int32) : Nat → Int32 → Int32 → Option (Int32)
  | 0, _, _ => none
  | n + 1, x4_6, x5_6 => (if (12 : Int32) ≤ x5_6 then (some (0 : Int32)) else (if x4_6 = i2 then (some (1 : Int32)) else ((a_fp_added n fn xs ys sq li x4_6 i3).bind (fun r_c26 => a_fp_isMultiple_L6 fn xs ys sq li i2 i3 n r_c26 (x5_6 + (1 : Int32))))))
def a_fp_isMultiple (N : Nat) (fn : Int32) (xs : Nat → Int32) (ys : Nat → Int32) (sq : Int64) (li : Int64) (i2 : Int32) (i3 : Int32) : Option (Int32) := a_fp_isMultiple_L6 fn xs ys sq li i2 i3 N (0 : Int32) (0 : Int32)
set_option maxHeartbeats 4000000 in
set_option maxRecDepth 100000 in
theorem w_a_fp_isMultiple (l : Launch) (D : va_G) (cI cJ : ClassId) (qf : Nat) (qx : Nat) (qy : Nat) (qo : Nat) (fn : Int32) (xs : Nat → Int32) (ys : Nat → Int32) (os : Nat → Int32) (qu : Nat) (qr : Nat) (sq : Int64) (li : Int64) (co : Int64) (di : Int64) (rc : Nat → Int32) (i2 : Int32) (i3 : Int32) (N : Nat) (r0 : Int32) (hm : a_fp_isMultiple N fn xs ys sq li i2 i3 = some r0) : Met l y_fp_isMultiple zs_fp_isMultiple rm_fp_isMultiple (zPc [.ref qf, .ref qu, .int i2, .int i3] D [(qf, .inr (1, [.ref qx, .ref qy, .ref qo, .int fn])), (qx, .inl (cI, 32, .inl xs)), (qy, .inl (cI, 32, .inl ys)), (qo, .inl (cI, 32, .inl os)), (qu, .inr (0, [.long sq, .long li, .long co, .long di, .ref qr])), (qr, .inl (cI, 97, .inl rc))] [(cI, .int), (cJ, .long)]) (zRd (some (.int r0))) 0 0 (fun _ => False) := by
  refine zm (by decide) (Nat.le_of_ble_eq_true rfl) ?_
  intro p e s m args below meth c R Q hR hQ hargs hx hb hml hr hlocks hnm hB hown hP hK hD0 ls hl
  have hown : s.vm.findClass "TorsionDesk$FinitePoints" = some m.cls := hown
  have hl : lv_has ls 6 [(0, .ref qf), (1, .ref qu), (2, .int i2), (3, .int i3)] := hl
  have k6 : ∀ (n : Nat) (x4_6 : Int32) (x5_6 : Int32) (ls : Array Slot), lv_has ls 6 [(0, .ref qf), (1, .ref qu), (2, .int i2), (3, .int i3), (4, .int x4_6), (5, .int x5_6)] → a_fp_isMultiple_L6 fn xs ys sq li i2 i3 n x4_6 x5_6 = some r0 → W p l e R s m args below meth c s.heap [] 0 0 Q (F0 m 6 ls []) := by
    intro n
    induction n with
    | zero => intro x4_6 x5_6  ls hl hm; rw [a_fp_isMultiple_L6] at hm; cases hm
    | succ n ih =>
      intro x4_6 x5_6  ls hl hm
      rw [a_fp_isMultiple_L6] at hm
      refine lv_iload (pc := 6) hx hb d_fp_isMultiple_6 (lv_at hl 5 rfl) ?_
      refine lv_bipush (pc := 8) (v := (12 : Int32)) hx hb d_fp_isMultiple_8 (by decide) ?_
      refine lv_icmp_ge (pc := 10) (tgt := 37) hx hb d_fp_isMultiple_10 rfl (fun h1 => ?_) (fun h1 => ?_)
      · rw [if_pos h1] at hm
        refine lv_iconst (pc := 37) (v := (0 : Int32)) hx hb d_fp_isMultiple_37 (by decide) ?_
        cases hm
        rw [hQ]
        exact W.zret (pc := 38) hx hb hr rfl (fun t ht _ => ⟨rfl, ht⟩) (fun _ h9 => nomatch h9) d_fp_isMultiple_38
      rw [if_neg h1] at hm
      refine lv_iload (pc := 13) hx hb d_fp_isMultiple_13 (lv_at hl 4 rfl) ?_
      refine lv_iload_n (pc := 15) hx hb d_fp_isMultiple_15 rfl (lv_at hl 2 rfl) ?_
      refine lv_icmp_ne (pc := 16) (tgt := 21) hx hb d_fp_isMultiple_16 rfl (fun h2 => ?_) (fun h2 => ?_)
      · rw [if_neg h2] at hm
        refine lv_aload_n (pc := 21) hx hb d_fp_isMultiple_21 rfl (lv_at hl 0 rfl) ?_
        refine lv_aload_n (pc := 22) hx hb d_fp_isMultiple_22 rfl (lv_at hl 1 rfl) ?_
        refine lv_iload (pc := 23) hx hb d_fp_isMultiple_23 (lv_at hl 4 rfl) ?_
        refine lv_iload_n (pc := 25) hx hb d_fp_isMultiple_25 rfl (lv_at hl 3 rfl) ?_
        obtain ⟨r_c26, c3, hm⟩ := zbind hm
        try dsimp only at hm
        refine zcV (pc := 26) (As := [.ref qu, .int x4_6, .int i3]) (rest := []) ⟨hx, hb, hml, hown, hB⟩ (w_a_fp_added l D cI cJ qf qx qy qo fn xs ys os qu qr sq li co di rc x4_6 i3 n r_c26 c3) (cwV 3 hB (zgV zw_167 zw_144 zw_145 zw_4 zw_146) rfl rfl rfl (by decide +kernel) ⟨by rw [hR]; exact Nat.le_of_ble_eq_true rfl, by rw [hR]; exact Nat.le_of_ble_eq_true rfl⟩) hK (hP.sub (ws' := [(qf, .inr (1, [.ref qx, .ref qy, .ref qo, .int fn])), (qx, .inl (cI, 32, .inl xs)), (qy, .inl (cI, 32, .inl ys)), (qo, .inl (cI, 32, .inl os)), (qu, .inr (0, [.long sq, .long li, .long co, .long di, .ref qr])), (qr, .inl (cI, 97, .inl rc))]) [0, 1, 2, 3, 4, 5] rfl) (hD0.sub (ws' := [(qf, .inr (1, [.ref qx, .ref qy, .ref qo, .int fn])), (qx, .inl (cI, 32, .inl xs)), (qy, .inl (cI, 32, .inl ys)), (qo, .inl (cI, 32, .inl os)), (qu, .inr (0, [.long sq, .long li, .long co, .long di, .ref qr])), (qr, .inl (cI, 97, .inl rc))]) [0, 1, 2, 3, 4, 5] (by decide) rfl) rfl rfl rfl rfl hl.1 rfl (Nat.le_of_ble_eq_true rfl) d_fp_isMultiple_26 ⟨Nat.zero_le _, Nat.zero_le _⟩ ?_
        refine lv_istore (pc := 29) (lv' := [(4, .int r_c26), (0, .ref qf), (1, .ref qu), (2, .int i2), (3, .int i3), (5, .int x5_6)]) hx hb d_fp_isMultiple_29 hl (Nat.le_of_ble_eq_true rfl) rfl (fun ls hl => ?_)
        refine lv_iinc (pc := 31) (k := 5) (v := x5_6 + (1 : Int32)) (lv' := [(5, .int (x5_6 + (1 : Int32))), (4, .int r_c26), (0, .ref qf), (1, .ref qu), (2, .int i2), (3, .int i3)]) hx hb d_fp_isMultiple_31 hl rfl (congrArg (x5_6 + ·) (by decide)) (Nat.le_of_ble_eq_true rfl) rfl (fun ls hl => ?_)
        refine lv_goto (pc := 34) (tgt := 6) hx hb d_fp_isMultiple_34 rfl ?_
        exact ih r_c26 (x5_6 + (1 : Int32)) ls (lv_sub hl [2, 3, 4, 5, 1, 0] rfl) hm
      rw [if_pos h2] at hm
      refine lv_iconst (pc := 19) (v := (1 : Int32)) hx hb d_fp_isMultiple_19 (by decide) ?_
      cases hm
      rw [hQ]
      exact W.zret (pc := 20) hx hb hr rfl (fun t ht _ => ⟨rfl, ht⟩) (fun _ h9 => nomatch h9) d_fp_isMultiple_20
  rw [a_fp_isMultiple] at hm
  refine lv_iconst (pc := 0) (v := (0 : Int32)) hx hb d_fp_isMultiple_0 (by decide) ?_
  refine lv_istore (pc := 1) (lv' := [(4, .int (0 : Int32)), (0, .ref qf), (1, .ref qu), (2, .int i2), (3, .int i3)]) hx hb d_fp_isMultiple_1 hl (Nat.le_of_ble_eq_true rfl) rfl (fun ls hl => ?_)
  refine lv_iconst (pc := 3) (v := (0 : Int32)) hx hb d_fp_isMultiple_3 (by decide) ?_
  refine lv_istore (pc := 4) (lv' := [(5, .int (0 : Int32)), (4, .int (0 : Int32)), (0, .ref qf), (1, .ref qu), (2, .int i2), (3, .int i3)]) hx hb d_fp_isMultiple_4 hl (Nat.le_of_ble_eq_true rfl) rfl (fun ls hl => ?_)
  exact k6 N (0 : Int32) (0 : Int32) ls (lv_sub hl [2, 3, 4, 5, 1, 0] rfl) hm
abbrev rm_fp_meetsOnlyInZero : Room := { frames := 3, cells := 0, slots := 0, locals := 88 }
def a_fp_meetsOnlyInZero_L3 (fn : Int32) (xs : Nat → Int32) (ys : Nat → Int32) (os : Nat → Int32) (sq : Int64) (li : Int64) (i2 : Int32) (i3 : Int32) : Nat → Int32 → Option (Int32)
  | 0, _ => none
  | n + 1, x4_3 => (if (i2 < 0 ∨ 32 ≤ i2.toNatClampNeg) then none else (if (os i2.toNatClampNeg) ≤ x4_3 then (some (1 : Int32)) else ((a_fp_multiple n fn xs ys os sq li x4_3 i2).bind (fun r_c21 => ((a_fp_isMultiple n fn xs ys sq li r_c21 i3).bind (fun r_c25 => (if r_c25 = 0 then a_fp_meetsOnlyInZero_L3 fn xs ys os sq li i2 i3 n (x4_3 + (1 : Int32)) else (some (0 : Int32)))))))))
def a_fp_meetsOnlyInZero (N : Nat) (fn : Int32) (xs : Nat → Int32) (ys : Nat → Int32) (os : Nat → Int32) (sq : Int64) (li : Int64) (i2 : Int32) (i3 : Int32) : Option (Int32) := a_fp_meetsOnlyInZero_L3 fn xs ys os sq li i2 i3 N (1 : Int32)
set_option maxHeartbeats 4000000 in
set_option maxRecDepth 100000 in
theorem w_a_fp_meetsOnlyInZero (l : Launch) (D : va_G) (cI cJ : ClassId) (qf : Nat) (qx : Nat) (qy : Nat) (qo : Nat) (fn : Int32) (xs : Nat → Int32) (ys : Nat → Int32) (os : Nat → Int32) (qu : Nat) (qr : Nat) (sq : Int64) (li : Int64) (co : Int64) (di : Int64) (rc : Nat → Int32) (i2 : Int32) (i3 : Int32) (N : Nat) (r0 : Int32) (hm : a_fp_meetsOnlyInZero N fn xs ys os sq li i2 i3 = some r0) : Met l y_fp_meetsOnlyInZero zs_fp_meetsOnlyInZero rm_fp_meetsOnlyInZero (zPc [.ref qf, .ref qu, .int i2, .int i3] D [(qf, .inr (1, [.ref qx, .ref qy, .ref qo, .int fn])), (qx, .inl (cI, 32, .inl xs)), (qy, .inl (cI, 32, .inl ys)), (qo, .inl (cI, 32, .inl os)), (qu, .inr (0, [.long sq, .long li, .long co, .long di, .ref qr])), (qr, .inl (cI, 97, .inl rc))] [(cI, .int), (cJ, .long)]) (zRd (some (.int r0))) 0 0 (fun _ => False) := by
  refine zm (by decide) (Nat.le_of_ble_eq_true rfl) ?_
  intro p e s m args below meth c R Q hR hQ hargs hx hb hml hr hlocks hnm hB hown hP hK hD0 ls hl
  have hown : s.vm.findClass "TorsionDesk$FinitePoints" = some m.cls := hown
  have hl : lv_has ls 5 [(0, .ref qf), (1, .ref qu), (2, .int i2), (3, .int i3)] := hl
  have k3 : ∀ (n : Nat) (x4_3 : Int32) (ls : Array Slot), lv_has ls 5 [(0, .ref qf), (1, .ref qu), (2, .int i2), (3, .int i3), (4, .int x4_3)] → a_fp_meetsOnlyInZero_L3 fn xs ys os sq li i2 i3 n x4_3 = some r0 → W p l e R s m args below meth c s.heap [] 0 0 Q (F0 m 3 ls []) := by
    intro n
    induction n with
    | zero => intro x4_3  ls hl hm; rw [a_fp_meetsOnlyInZero_L3] at hm; cases hm
    | succ n ih =>
      intro x4_3  ls hl hm
      rw [a_fp_meetsOnlyInZero_L3] at hm
      refine lv_iload (pc := 3) hx hb d_fp_meetsOnlyInZero_3 (lv_at hl 4 rfl) ?_
      refine lv_aload_n (pc := 5) hx hb d_fp_meetsOnlyInZero_5 rfl (lv_at hl 0 rfl) ?_
      refine va_get (pc := 6) (D := D) (ci := 1) (v := .ref qo) (C := "TorsionDesk$FinitePoints") (T := tX1) (N := 4) hx hb hB lX1 hown hK hP 0 rfl rfl 2 (by decide) (hB _ zw_76) (fun _ h9 => h9) rfl d_fp_meetsOnlyInZero_6 ?_
      refine lv_iload_n (pc := 9) hx hb d_fp_meetsOnlyInZero_9 rfl (lv_at hl 2 rfl) ?_
      by_cases g1 : (i2 < 0 ∨ 32 ≤ i2.toNatClampNeg)
      · rw [if_pos g1] at hm; cases hm
      rw [if_neg g1] at hm
      refine va_iald (pc := 10) hx hb hK hP 3 0 rfl rfl g1 d_fp_meetsOnlyInZero_10 ?_
      refine lv_icmp_ge (pc := 11) (tgt := 39) hx hb d_fp_meetsOnlyInZero_11 rfl (fun h2 => ?_) (fun h2 => ?_)
      · rw [if_pos h2] at hm
        refine lv_iconst (pc := 39) (v := (1 : Int32)) hx hb d_fp_meetsOnlyInZero_39 (by decide) ?_
        cases hm
        rw [hQ]
        exact W.zret (pc := 40) hx hb hr rfl (fun t ht _ => ⟨rfl, ht⟩) (fun _ h9 => nomatch h9) d_fp_meetsOnlyInZero_40
      rw [if_neg h2] at hm
      refine lv_aload_n (pc := 14) hx hb d_fp_meetsOnlyInZero_14 rfl (lv_at hl 0 rfl) ?_
      refine lv_aload_n (pc := 15) hx hb d_fp_meetsOnlyInZero_15 rfl (lv_at hl 1 rfl) ?_
      refine lv_aload_n (pc := 16) hx hb d_fp_meetsOnlyInZero_16 rfl (lv_at hl 0 rfl) ?_
      refine lv_aload_n (pc := 17) hx hb d_fp_meetsOnlyInZero_17 rfl (lv_at hl 1 rfl) ?_
      refine lv_iload (pc := 18) hx hb d_fp_meetsOnlyInZero_18 (lv_at hl 4 rfl) ?_
      refine lv_iload_n (pc := 20) hx hb d_fp_meetsOnlyInZero_20 rfl (lv_at hl 2 rfl) ?_
      obtain ⟨r_c21, c3, hm⟩ := zbind hm
      try dsimp only at hm
      refine zcV (pc := 21) (As := [.ref qu, .int x4_3, .int i2]) (rest := [.ref qu, .ref qf]) ⟨hx, hb, hml, hown, hB⟩ (w_a_fp_multiple l D cI cJ qf qx qy qo fn xs ys os qu qr sq li co di rc x4_3 i2 n r_c21 c3) (cwV 3 hB (zgV zw_197 zw_161 zw_162 zw_4 zw_163) rfl rfl rfl (by decide +kernel) ⟨by rw [hR]; exact Nat.le_of_ble_eq_true rfl, by rw [hR]; exact Nat.le_of_ble_eq_true rfl⟩) hK (hP.sub (ws' := [(qf, .inr (1, [.ref qx, .ref qy, .ref qo, .int fn])), (qx, .inl (cI, 32, .inl xs)), (qy, .inl (cI, 32, .inl ys)), (qo, .inl (cI, 32, .inl os)), (qu, .inr (0, [.long sq, .long li, .long co, .long di, .ref qr])), (qr, .inl (cI, 97, .inl rc))]) [0, 1, 2, 3, 4, 5] rfl) (hD0.sub (ws' := [(qf, .inr (1, [.ref qx, .ref qy, .ref qo, .int fn])), (qx, .inl (cI, 32, .inl xs)), (qy, .inl (cI, 32, .inl ys)), (qo, .inl (cI, 32, .inl os)), (qu, .inr (0, [.long sq, .long li, .long co, .long di, .ref qr])), (qr, .inl (cI, 97, .inl rc))]) [0, 1, 2, 3, 4, 5] (by decide) rfl) rfl rfl rfl rfl hl.1 rfl (Nat.le_of_ble_eq_true rfl) d_fp_meetsOnlyInZero_21 ⟨Nat.zero_le _, Nat.zero_le _⟩ ?_
      refine lv_iload_n (pc := 24) hx hb d_fp_meetsOnlyInZero_24 rfl (lv_at hl 3 rfl) ?_
      obtain ⟨r_c25, c4, hm⟩ := zbind hm
      try dsimp only at hm
      refine zcV (pc := 25) (As := [.ref qu, .int r_c21, .int i3]) (rest := []) ⟨hx, hb, hml, hown, hB⟩ (w_a_fp_isMultiple l D cI cJ qf qx qy qo fn xs ys os qu qr sq li co di rc r_c21 i3 n r_c25 c4) (cwV 3 hB (zgV zw_198 zw_200 zv_fp_isMultiple zw_4 zw_201) rfl rfl rfl (by decide +kernel) ⟨by rw [hR]; exact Nat.le_of_ble_eq_true rfl, by rw [hR]; exact Nat.le_of_ble_eq_true rfl⟩) hK (hP.sub (ws' := [(qf, .inr (1, [.ref qx, .ref qy, .ref qo, .int fn])), (qx, .inl (cI, 32, .inl xs)), (qy, .inl (cI, 32, .inl ys)), (qo, .inl (cI, 32, .inl os)), (qu, .inr (0, [.long sq, .long li, .long co, .long di, .ref qr])), (qr, .inl (cI, 97, .inl rc))]) [0, 1, 2, 3, 4, 5] rfl) (hD0.sub (ws' := [(qf, .inr (1, [.ref qx, .ref qy, .ref qo, .int fn])), (qx, .inl (cI, 32, .inl xs)), (qy, .inl (cI, 32, .inl ys)), (qo, .inl (cI, 32, .inl os)), (qu, .inr (0, [.long sq, .long li, .long co, .long di, .ref qr])), (qr, .inl (cI, 97, .inl rc))]) [0, 1, 2, 3, 4, 5] (by decide) rfl) rfl rfl rfl rfl hl.1 rfl (Nat.le_of_ble_eq_true rfl) d_fp_meetsOnlyInZero_25 ⟨Nat.zero_le _, Nat.zero_le _⟩ ?_
      refine lv_if_eq (pc := 28) (tgt := 33) hx hb d_fp_meetsOnlyInZero_28 rfl (fun h5 => ?_) (fun h5 => ?_)
      · rw [if_pos h5] at hm
        refine lv_iinc (pc := 33) (k := 4) (v := x4_3 + (1 : Int32)) (lv' := [(4, .int (x4_3 + (1 : Int32))), (0, .ref qf), (1, .ref qu), (2, .int i2), (3, .int i3)]) hx hb d_fp_meetsOnlyInZero_33 hl rfl (congrArg (x4_3 + ·) (by decide)) (Nat.le_of_ble_eq_true rfl) rfl (fun ls hl => ?_)
        refine lv_goto (pc := 36) (tgt := 3) hx hb d_fp_meetsOnlyInZero_36 rfl ?_
        exact ih (x4_3 + (1 : Int32)) ls (lv_sub hl [1, 2, 3, 4, 0] rfl) hm
      rw [if_neg h5] at hm
      refine lv_iconst (pc := 31) (v := (0 : Int32)) hx hb d_fp_meetsOnlyInZero_31 (by decide) ?_
      cases hm
      rw [hQ]
      exact W.zret (pc := 32) hx hb hr rfl (fun t ht _ => ⟨rfl, ht⟩) (fun _ h9 => nomatch h9) d_fp_meetsOnlyInZero_32
  rw [a_fp_meetsOnlyInZero] at hm
  refine lv_iconst (pc := 0) (v := (1 : Int32)) hx hb d_fp_meetsOnlyInZero_0 (by decide) ?_
  refine lv_istore (pc := 1) (lv' := [(4, .int (1 : Int32)), (0, .ref qf), (1, .ref qu), (2, .int i2), (3, .int i3)]) hx hb d_fp_meetsOnlyInZero_1 hl (Nat.le_of_ble_eq_true rfl) rfl (fun ls hl => ?_)
  exact k3 N (1 : Int32) ls (lv_sub hl [1, 2, 3, 4, 0] rfl) hm
abbrev rm_fp_smallerMaker : Room := { frames := 4, cells := 0, slots := 0, locals := 112 }
def a_fp_smallerMaker_L13 (fn : Int32) (xs : Nat → Int32) (ys : Nat → Int32) (os : Nat → Int32) (sq : Int64) (li : Int64) (r_c1 : Int32) (r_c6 : Int32) : Nat → Int32 → Option (Int32)
  | 0, _ => none
  | n + 1, x4_13 => (if fn ≤ x4_13 then (some (-1 : Int32)) else (if (x4_13 < 0 ∨ 32 ≤ x4_13.toNatClampNeg) then none else (if (os x4_13.toNatClampNeg) = r_c1 then ((a_fp_meetsOnlyInZero n fn xs ys os sq li x4_13 r_c6).bind (fun r_c38 => (if r_c38 = 0 then a_fp_smallerMaker_L13 fn xs ys os sq li r_c1 r_c6 n (x4_13 + (1 : Int32)) else (some x4_13)))) else a_fp_smallerMaker_L13 fn xs ys os sq li r_c1 r_c6 n (x4_13 + (1 : Int32)))))
def a_fp_smallerMaker (N : Nat) (fn : Int32) (xs : Nat → Int32) (ys : Nat → Int32) (os : Nat → Int32) (sq : Int64) (li : Int64) : Option (Int32) := ((a_fp_smallerFactor N fn os).bind (fun r_c1 => ((a_fp_greaterMaker N fn os).bind (fun r_c6 => a_fp_smallerMaker_L13 fn xs ys os sq li r_c1 r_c6 N (0 : Int32)))))
set_option maxHeartbeats 4000000 in
set_option maxRecDepth 100000 in
theorem w_a_fp_smallerMaker (l : Launch) (D : va_G) (cI cJ : ClassId) (qf : Nat) (qx : Nat) (qy : Nat) (qo : Nat) (fn : Int32) (xs : Nat → Int32) (ys : Nat → Int32) (os : Nat → Int32) (qu : Nat) (qr : Nat) (sq : Int64) (li : Int64) (co : Int64) (di : Int64) (rc : Nat → Int32) (N : Nat) (r0 : Int32) (hm : a_fp_smallerMaker N fn xs ys os sq li = some r0) : Met l y_fp_smallerMaker zs_fp_smallerMaker rm_fp_smallerMaker (zPc [.ref qf, .ref qu] D [(qf, .inr (1, [.ref qx, .ref qy, .ref qo, .int fn])), (qx, .inl (cI, 32, .inl xs)), (qy, .inl (cI, 32, .inl ys)), (qo, .inl (cI, 32, .inl os)), (qu, .inr (0, [.long sq, .long li, .long co, .long di, .ref qr])), (qr, .inl (cI, 97, .inl rc))] [(cI, .int), (cJ, .long)]) (zRd (some (.int r0))) 0 0 (fun _ => False) := by
  refine zm (by decide) (Nat.le_of_ble_eq_true rfl) ?_
  intro p e s m args below meth c R Q hR hQ hargs hx hb hml hr hlocks hnm hB hown hP hK hD0 ls hl
  have hown : s.vm.findClass "TorsionDesk$FinitePoints" = some m.cls := hown
  have hl : lv_has ls 5 [(0, .ref qf), (1, .ref qu)] := hl
  have k13 : ∀ (r_c1 : Int32) (r_c6 : Int32) (n : Nat) (x4_13 : Int32) (ls : Array Slot), lv_has ls 5 [(0, .ref qf), (1, .ref qu), (2, .int r_c1), (3, .int r_c6), (4, .int x4_13)] → a_fp_smallerMaker_L13 fn xs ys os sq li r_c1 r_c6 n x4_13 = some r0 → W p l e R s m args below meth c s.heap [] 0 0 Q (F0 m 13 ls []) := by
    intro r_c1 r_c6 n
    induction n with
    | zero => intro x4_13  ls hl hm; rw [a_fp_smallerMaker_L13] at hm; cases hm
    | succ n ih =>
      intro x4_13  ls hl hm
      rw [a_fp_smallerMaker_L13] at hm
      refine lv_iload (pc := 13) hx hb d_fp_smallerMaker_13 (lv_at hl 4 rfl) ?_
      refine lv_aload_n (pc := 15) hx hb d_fp_smallerMaker_15 rfl (lv_at hl 0 rfl) ?_
      refine va_get (pc := 16) (D := D) (ci := 1) (v := .int fn) (C := "TorsionDesk$FinitePoints") (T := tX1) (N := 4) hx hb hB lX1 hown hK hP 0 rfl rfl 3 (by decide) (hB _ zw_78) (fun _ h9 => h9) rfl d_fp_smallerMaker_16 ?_
      refine lv_icmp_ge (pc := 19) (tgt := 53) hx hb d_fp_smallerMaker_19 rfl (fun h1 => ?_) (fun h1 => ?_)
      · rw [if_pos h1] at hm
        refine lv_iconst (pc := 53) (v := (-1 : Int32)) hx hb d_fp_smallerMaker_53 (by decide) ?_
        cases hm
        rw [hQ]
        exact W.iret (pc := 54) hx hb hr (fun t ht _ => ⟨rfl, ht⟩) (fun _ h9 => nomatch h9) d_fp_smallerMaker_54
      rw [if_neg h1] at hm
      refine lv_aload_n (pc := 22) hx hb d_fp_smallerMaker_22 rfl (lv_at hl 0 rfl) ?_
      refine va_get (pc := 23) (D := D) (ci := 1) (v := .ref qo) (C := "TorsionDesk$FinitePoints") (T := tX1) (N := 4) hx hb hB lX1 hown hK hP 0 rfl rfl 2 (by decide) (hB _ zw_76) (fun _ h9 => h9) rfl d_fp_smallerMaker_23 ?_
      refine lv_iload (pc := 26) hx hb d_fp_smallerMaker_26 (lv_at hl 4 rfl) ?_
      by_cases g2 : (x4_13 < 0 ∨ 32 ≤ x4_13.toNatClampNeg)
      · rw [if_pos g2] at hm; cases hm
      rw [if_neg g2] at hm
      refine va_iald (pc := 28) hx hb hK hP 3 0 rfl rfl g2 d_fp_smallerMaker_28 ?_
      refine lv_iload_n (pc := 29) hx hb d_fp_smallerMaker_29 rfl (lv_at hl 2 rfl) ?_
      refine lv_icmp_ne (pc := 30) (tgt := 47) hx hb d_fp_smallerMaker_30 rfl (fun h3 => ?_) (fun h3 => ?_)
      · rw [if_neg h3] at hm
        refine lv_iinc (pc := 47) (k := 4) (v := x4_13 + (1 : Int32)) (lv' := [(4, .int (x4_13 + (1 : Int32))), (0, .ref qf), (1, .ref qu), (2, .int r_c1), (3, .int r_c6)]) hx hb d_fp_smallerMaker_47 hl rfl (congrArg (x4_13 + ·) (by decide)) (Nat.le_of_ble_eq_true rfl) rfl (fun ls hl => ?_)
        refine lv_goto (pc := 50) (tgt := 13) hx hb d_fp_smallerMaker_50 rfl ?_
        exact ih (x4_13 + (1 : Int32)) ls (lv_sub hl [1, 2, 3, 4, 0] rfl) hm
      rw [if_pos h3] at hm
      refine lv_aload_n (pc := 33) hx hb d_fp_smallerMaker_33 rfl (lv_at hl 0 rfl) ?_
      refine lv_aload_n (pc := 34) hx hb d_fp_smallerMaker_34 rfl (lv_at hl 1 rfl) ?_
      refine lv_iload (pc := 35) hx hb d_fp_smallerMaker_35 (lv_at hl 4 rfl) ?_
      refine lv_iload_n (pc := 37) hx hb d_fp_smallerMaker_37 rfl (lv_at hl 3 rfl) ?_
      obtain ⟨r_c38, c4, hm⟩ := zbind hm
      try dsimp only at hm
      refine zcV (pc := 38) (As := [.ref qu, .int x4_13, .int r_c6]) (rest := []) ⟨hx, hb, hml, hown, hB⟩ (w_a_fp_meetsOnlyInZero l D cI cJ qf qx qy qo fn xs ys os qu qr sq li co di rc x4_13 r_c6 n r_c38 c4) (cwV 3 hB (zgV zw_193 zw_195 zv_fp_meetsOnlyInZero zw_4 zw_196) rfl rfl rfl (by decide +kernel) ⟨by rw [hR]; exact Nat.le_of_ble_eq_true rfl, by rw [hR]; exact Nat.le_of_ble_eq_true rfl⟩) hK (hP.sub (ws' := [(qf, .inr (1, [.ref qx, .ref qy, .ref qo, .int fn])), (qx, .inl (cI, 32, .inl xs)), (qy, .inl (cI, 32, .inl ys)), (qo, .inl (cI, 32, .inl os)), (qu, .inr (0, [.long sq, .long li, .long co, .long di, .ref qr])), (qr, .inl (cI, 97, .inl rc))]) [0, 1, 2, 3, 4, 5] rfl) (hD0.sub (ws' := [(qf, .inr (1, [.ref qx, .ref qy, .ref qo, .int fn])), (qx, .inl (cI, 32, .inl xs)), (qy, .inl (cI, 32, .inl ys)), (qo, .inl (cI, 32, .inl os)), (qu, .inr (0, [.long sq, .long li, .long co, .long di, .ref qr])), (qr, .inl (cI, 97, .inl rc))]) [0, 1, 2, 3, 4, 5] (by decide) rfl) rfl rfl rfl rfl hl.1 rfl (Nat.le_of_ble_eq_true rfl) d_fp_smallerMaker_38 ⟨Nat.zero_le _, Nat.zero_le _⟩ ?_
      refine lv_if_eq (pc := 41) (tgt := 47) hx hb d_fp_smallerMaker_41 rfl (fun h5 => ?_) (fun h5 => ?_)
      · rw [if_pos h5] at hm
        refine lv_iinc (pc := 47) (k := 4) (v := x4_13 + (1 : Int32)) (lv' := [(4, .int (x4_13 + (1 : Int32))), (0, .ref qf), (1, .ref qu), (2, .int r_c1), (3, .int r_c6)]) hx hb d_fp_smallerMaker_47 hl rfl (congrArg (x4_13 + ·) (by decide)) (Nat.le_of_ble_eq_true rfl) rfl (fun ls hl => ?_)
        refine lv_goto (pc := 50) (tgt := 13) hx hb d_fp_smallerMaker_50 rfl ?_
        exact ih (x4_13 + (1 : Int32)) ls (lv_sub hl [1, 2, 3, 4, 0] rfl) hm
      rw [if_neg h5] at hm
      refine lv_iload (pc := 44) hx hb d_fp_smallerMaker_44 (lv_at hl 4 rfl) ?_
      cases hm
      rw [hQ]
      exact W.iret (pc := 46) hx hb hr (fun t ht _ => ⟨rfl, ht⟩) (fun _ h9 => nomatch h9) d_fp_smallerMaker_46
  rw [a_fp_smallerMaker] at hm
  refine lv_aload_n (pc := 0) hx hb d_fp_smallerMaker_0 rfl (lv_at hl 0 rfl) ?_
  obtain ⟨r_c1, c1, hm⟩ := zbind hm
  try dsimp only at hm
  refine zcV (pc := 1) (As := []) (rest := []) ⟨hx, hb, hml, hown, hB⟩ (w_a_fp_smallerFactor l D cI cJ qf qx qy qo fn xs ys os N r_c1 c1) (cwV 0 hB (zgV zw_188 zw_173 zw_174 zw_4 zw_175) rfl rfl rfl (by decide +kernel) ⟨by rw [hR]; exact Nat.le_of_ble_eq_true rfl, by rw [hR]; exact Nat.le_of_ble_eq_true rfl⟩) hK (hP.sub (ws' := [(qf, .inr (1, [.ref qx, .ref qy, .ref qo, .int fn])), (qx, .inl (cI, 32, .inl xs)), (qy, .inl (cI, 32, .inl ys)), (qo, .inl (cI, 32, .inl os))]) [0, 1, 2, 3] rfl) (hD0.sub (ws' := [(qf, .inr (1, [.ref qx, .ref qy, .ref qo, .int fn])), (qx, .inl (cI, 32, .inl xs)), (qy, .inl (cI, 32, .inl ys)), (qo, .inl (cI, 32, .inl os))]) [0, 1, 2, 3] (by decide) rfl) rfl rfl rfl rfl hl.1 rfl (Nat.le_of_ble_eq_true rfl) d_fp_smallerMaker_1 ⟨Nat.zero_le _, Nat.zero_le _⟩ ?_
  refine lv_istore_n (pc := 4) (lv' := [(2, .int r_c1), (0, .ref qf), (1, .ref qu)]) hx hb d_fp_smallerMaker_4 rfl hl (Nat.le_of_ble_eq_true rfl) rfl (fun ls hl => ?_)
  refine lv_aload_n (pc := 5) hx hb d_fp_smallerMaker_5 rfl (lv_at hl 1 rfl) ?_
  obtain ⟨r_c6, c2, hm⟩ := zbind hm
  try dsimp only at hm
  refine zcV (pc := 6) (As := []) (rest := []) ⟨hx, hb, hml, hown, hB⟩ (w_a_fp_greaterMaker l D cI cJ qf qx qy qo fn xs ys os N r_c6 c2) (cwV 0 hB (zgV zw_189 zw_190 zw_191 zw_4 zw_192) rfl rfl rfl (by decide +kernel) ⟨by rw [hR]; exact Nat.le_of_ble_eq_true rfl, by rw [hR]; exact Nat.le_of_ble_eq_true rfl⟩) hK (hP.sub (ws' := [(qf, .inr (1, [.ref qx, .ref qy, .ref qo, .int fn])), (qx, .inl (cI, 32, .inl xs)), (qy, .inl (cI, 32, .inl ys)), (qo, .inl (cI, 32, .inl os))]) [0, 1, 2, 3] rfl) (hD0.sub (ws' := [(qf, .inr (1, [.ref qx, .ref qy, .ref qo, .int fn])), (qx, .inl (cI, 32, .inl xs)), (qy, .inl (cI, 32, .inl ys)), (qo, .inl (cI, 32, .inl os))]) [0, 1, 2, 3] (by decide) rfl) rfl rfl rfl rfl hl.1 rfl (Nat.le_of_ble_eq_true rfl) d_fp_smallerMaker_6 ⟨Nat.zero_le _, Nat.zero_le _⟩ ?_
  refine lv_istore_n (pc := 9) (lv' := [(3, .int r_c6), (2, .int r_c1), (0, .ref qf), (1, .ref qu)]) hx hb d_fp_smallerMaker_9 rfl hl (Nat.le_of_ble_eq_true rfl) rfl (fun ls hl => ?_)
  refine lv_iconst (pc := 10) (v := (0 : Int32)) hx hb d_fp_smallerMaker_10 (by decide) ?_
  refine lv_istore (pc := 11) (lv' := [(4, .int (0 : Int32)), (3, .int r_c6), (2, .int r_c1), (0, .ref qf), (1, .ref qu)]) hx hb d_fp_smallerMaker_11 hl (Nat.le_of_ble_eq_true rfl) rfl (fun ls hl => ?_)
  exact k13 r_c1 r_c6 N (0 : Int32) ls (lv_sub hl [3, 4, 2, 1, 0] rfl) hm
