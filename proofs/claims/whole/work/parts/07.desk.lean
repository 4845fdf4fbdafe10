abbrev rm_td_isCoefficient : Room := { frames := 0, cells := 0, slots := 0, locals := 0 }
def a_td_isCoefficient (i1 : Int32) : Int32 := (if i1 < (-6 : Int32) then (0 : Int32) else (if (6 : Int32) < i1 then (0 : Int32) else (1 : Int32)))
set_option maxHeartbeats 4000000 in
set_option maxRecDepth 100000 in
theorem w_a_td_isCoefficient (l : Launch) (D : va_G) (cI cJ : ClassId) (i1 : Int32) (r0 : Int32) (hm : a_td_isCoefficient i1 = r0) : Met l y_td_isCoefficient zs_td_isCoefficient rm_td_isCoefficient (zPc [.int i1] D [] [(cI, .int), (cJ, .long)]) (zRd (some (.int r0))) 0 0 (fun _ => False) := by
  refine zm (by decide) (Nat.le_of_ble_eq_true rfl) ?_
  intro p e s m args below meth c R Q hR hQ hargs hx hb hml hr hlocks hnm hB hown hP hK hD0 ls hl
  have hown : s.vm.findClass "TorsionDesk" = some m.cls := hown
  have hl : lv_has ls 1 [(0, .int i1)] := hl
  rw [a_td_isCoefficient] at hm
  refine lv_iload_n (pc := 0) hx hb d_td_isCoefficient_0 rfl (lv_at hl 0 rfl) ?_
  refine lv_bipush (pc := 1) (v := (-6 : Int32)) hx hb d_td_isCoefficient_1 (by decide) ?_
  refine lv_icmp_lt (pc := 3) (tgt := 16) hx hb d_td_isCoefficient_3 rfl (fun h1 => ?_) (fun h1 => ?_)
  · rw [if_pos h1] at hm
    refine lv_iconst (pc := 16) (v := (0 : Int32)) hx hb d_td_isCoefficient_16 (by decide) ?_
    subst hm
    rw [hQ]
    exact W.zret (pc := 17) hx hb hr rfl (fun t ht _ => ⟨rfl, ht⟩) (fun _ h9 => nomatch h9) d_td_isCoefficient_17
  rw [if_neg h1] at hm
  refine lv_iload_n (pc := 6) hx hb d_td_isCoefficient_6 rfl (lv_at hl 0 rfl) ?_
  refine lv_bipush (pc := 7) (v := (6 : Int32)) hx hb d_td_isCoefficient_7 (by decide) ?_
  refine lv_icmp_gt (pc := 9) (tgt := 16) hx hb d_td_isCoefficient_9 rfl (fun h2 => ?_) (fun h2 => ?_)
  · rw [if_pos h2] at hm
    refine lv_iconst (pc := 16) (v := (0 : Int32)) hx hb d_td_isCoefficient_16 (by decide) ?_
    subst hm
    rw [hQ]
    exact W.zret (pc := 17) hx hb hr rfl (fun t ht _ => ⟨rfl, ht⟩) (fun _ h9 => nomatch h9) d_td_isCoefficient_17
  rw [if_neg h2] at hm
  refine lv_iconst (pc := 12) (v := (1 : Int32)) hx hb d_td_isCoefficient_12 (by decide) ?_
  refine lv_goto (pc := 13) (tgt := 17) hx hb d_td_isCoefficient_13 rfl ?_
  subst hm
  rw [hQ]
  exact W.zret (pc := 17) hx hb hr rfl (fun t ht _ => ⟨rfl, ht⟩) (fun _ h9 => nomatch h9) d_td_isCoefficient_17
abbrev rm_td_sharedTwos : Room := { frames := 0, cells := 0, slots := 0, locals := 0 }
def a_td_sharedTwos_L2 (i1 : Int32) (i2 : Int32) : Nat → Int32 → Option (Int32)
  | 0, _ => none
  | n + 1, x2_2 => (if i2 ≤ x2_2 then (some x2_2) else (if ((i1 >>> (x2_2 &&& 31)) &&& (1 : Int32)) = 0 then a_td_sharedTwos_L2 i1 i2 n (x2_2 + (1 : Int32)) else (some x2_2)))
def a_td_sharedTwos (N : Nat) (i1 : Int32) (i2 : Int32) : Option (Int32) := a_td_sharedTwos_L2 i1 i2 N (0 : Int32)
set_option maxHeartbeats 4000000 in
set_option maxRecDepth 100000 in
theorem w_a_td_sharedTwos (l : Launch) (D : va_G) (cI cJ : ClassId) (i1 : Int32) (i2 : Int32) (N : Nat) (r0 : Int32) (hm : a_td_sharedTwos N i1 i2 = some r0) : Met l y_td_sharedTwos zs_td_sharedTwos rm_td_sharedTwos (zPc [.int i1, .int i2] D [] [(cI, .int), (cJ, .long)]) (zRd (some (.int r0))) 0 0 (fun _ => False) := by
  refine zm (by decide) (Nat.le_of_ble_eq_true rfl) ?_
  intro p e s m args below meth c R Q hR hQ hargs hx hb hml hr hlocks hnm hB hown hP hK hD0 ls hl
  have hown : s.vm.findClass "TorsionDesk" = some m.cls := hown
  have hl : lv_has ls 3 [(0, .int i1), (1, .int i2)] := hl
  have k2 : ∀ (n : Nat) (x2_2 : Int32) (ls : Array Slot), lv_has ls 3 [(0, .int i1), (1, .int i2), (2, .int x2_2)] → a_td_sharedTwos_L2 i1 i2 n x2_2 = some r0 → W p l e R s m args below meth c s.heap [] 0 0 Q (F0 m 2 ls []) := by
    intro n
    induction n with
    | zero => intro x2_2  ls hl hm; rw [a_td_sharedTwos_L2] at hm; cases hm
    | succ n ih =>
      intro x2_2  ls hl hm
      rw [a_td_sharedTwos_L2] at hm
      refine lv_iload_n (pc := 2) hx hb d_td_sharedTwos_2 rfl (lv_at hl 2 rfl) ?_
      refine lv_iload_n (pc := 3) hx hb d_td_sharedTwos_3 rfl (lv_at hl 1 rfl) ?_
      refine lv_icmp_ge (pc := 4) (tgt := 21) hx hb d_td_sharedTwos_4 rfl (fun h1 => ?_) (fun h1 => ?_)
      · rw [if_pos h1] at hm
        refine lv_iload_n (pc := 21) hx hb d_td_sharedTwos_21 rfl (lv_at hl 2 rfl) ?_
        cases hm
        rw [hQ]
        exact W.iret (pc := 22) hx hb hr (fun t ht _ => ⟨rfl, ht⟩) (fun _ h9 => nomatch h9) d_td_sharedTwos_22
      rw [if_neg h1] at hm
      refine lv_iload_n (pc := 7) hx hb d_td_sharedTwos_7 rfl (lv_at hl 0 rfl) ?_
      refine lv_iload_n (pc := 8) hx hb d_td_sharedTwos_8 rfl (lv_at hl 2 rfl) ?_
      refine lv_ishr (pc := 9) hx hb d_td_sharedTwos_9 ?_
      refine lv_iconst (pc := 10) (v := (1 : Int32)) hx hb d_td_sharedTwos_10 (by decide) ?_
      refine lv_iand (pc := 11) hx hb d_td_sharedTwos_11 ?_
      refine lv_if_ne (pc := 12) (tgt := 21) hx hb d_td_sharedTwos_12 rfl (fun h2 => ?_) (fun h2 => ?_)
      · rw [if_neg h2] at hm
        refine lv_iload_n (pc := 21) hx hb d_td_sharedTwos_21 rfl (lv_at hl 2 rfl) ?_
        cases hm
        rw [hQ]
        exact W.iret (pc := 22) hx hb hr (fun t ht _ => ⟨rfl, ht⟩) (fun _ h9 => nomatch h9) d_td_sharedTwos_22
      rw [if_pos h2] at hm
      refine lv_iinc (pc := 15) (k := 2) (v := x2_2 + (1 : Int32)) (lv' := [(2, .int (x2_2 + (1 : Int32))), (0, .int i1), (1, .int i2)]) hx hb d_td_sharedTwos_15 hl rfl (congrArg (x2_2 + ·) (by decide)) (Nat.le_of_ble_eq_true rfl) rfl (fun ls hl => ?_)
      refine lv_goto (pc := 18) (tgt := 2) hx hb d_td_sharedTwos_18 rfl ?_
      exact ih (x2_2 + (1 : Int32)) ls (lv_sub hl [1, 2, 0] rfl) hm
  rw [a_td_sharedTwos] at hm
  refine lv_iconst (pc := 0) (v := (0 : Int32)) hx hb d_td_sharedTwos_0 (by decide) ?_
  refine lv_istore_n (pc := 1) (lv' := [(2, .int (0 : Int32)), (0, .int i1), (1, .int i2)]) hx hb d_td_sharedTwos_1 rfl hl (Nat.le_of_ble_eq_true rfl) rfl (fun ls hl => ?_)
  exact k2 N (0 : Int32) ls (lv_sub hl [1, 2, 0] rfl) hm
abbrev rm_td_greatestDivisor : Room := { frames := 0, cells := 0, slots := 0, locals := 0 }
def a_td_greatestDivisor_L7 : Nat → Int32 → Int32 → Int32 → Option (Int32)
  | 0, _, _, _ => none
  | n + 1, x2_7, x3_7, x4_7 => (if (64 : Int32) ≤ x4_7 then (some x2_7) else (if x3_7 = 0 then (some x2_7) else a_td_greatestDivisor_L7  n x3_7 (x2_7 - x2_7 / x3_7 * x3_7) (x4_7 + (1 : Int32))))
def a_td_greatestDivisor (N : Nat) (i1 : Int32) (i2 : Int32) : Option (Int32) := a_td_greatestDivisor_L7  N i1 i2 (0 : Int32)
set_option maxHeartbeats 4000000 in
set_option maxRecDepth 100000 in
theorem w_a_td_greatestDivisor (l : Launch) (D : va_G) (cI cJ : ClassId) (i1 : Int32) (i2 : Int32) (N : Nat) (r0 : Int32) (hm : a_td_greatestDivisor N i1 i2 = some r0) : Met l y_td_greatestDivisor zs_td_greatestDivisor rm_td_greatestDivisor (zPc [.int i1, .int i2] D [] [(cI, .int), (cJ, .long)]) (zRd (some (.int r0))) 0 0 (fun _ => False) := by
  refine zm (by decide) (Nat.le_of_ble_eq_true rfl) ?_
  intro p e s m args below meth c R Q hR hQ hargs hx hb hml hr hlocks hnm hB hown hP hK hD0 ls hl
  have hown : s.vm.findClass "TorsionDesk" = some m.cls := hown
  have hl : lv_has ls 6 [(0, .int i1), (1, .int i2)] := hl
  have k7 : ∀ (n : Nat) (x2_7 : Int32) (x3_7 : Int32) (x4_7 : Int32) (ls : Array Slot), lv_has ls 6 [(2, .int x2_7), (3, .int x3_7), (4, .int x4_7)] → a_td_greatestDivisor_L7  n x2_7 x3_7 x4_7 = some r0 → W p l e R s m args below meth c s.heap [] 0 0 Q (F0 m 7 ls []) := by
    intro n
    induction n with
    | zero => intro x2_7 x3_7 x4_7  ls hl hm; rw [a_td_greatestDivisor_L7] at hm; cases hm
    | succ n ih =>
      intro x2_7 x3_7 x4_7  ls hl hm
      rw [a_td_greatestDivisor_L7] at hm
      refine lv_iload (pc := 7) hx hb d_td_greatestDivisor_7 (lv_at hl 2 rfl) ?_
      refine lv_bipush (pc := 9) (v := (64 : Int32)) hx hb d_td_greatestDivisor_9 (by decide) ?_
      refine lv_icmp_ge (pc := 11) (tgt := 34) hx hb d_td_greatestDivisor_11 rfl (fun h1 => ?_) (fun h1 => ?_)
      · rw [if_pos h1] at hm
        refine lv_iload_n (pc := 34) hx hb d_td_greatestDivisor_34 rfl (lv_at hl 0 rfl) ?_
        cases hm
        rw [hQ]
        exact W.iret (pc := 35) hx hb hr (fun t ht _ => ⟨rfl, ht⟩) (fun _ h9 => nomatch h9) d_td_greatestDivisor_35
      rw [if_neg h1] at hm
      refine lv_iload_n (pc := 14) hx hb d_td_greatestDivisor_14 rfl (lv_at hl 1 rfl) ?_
      refine lv_if_eq (pc := 15) (tgt := 34) hx hb d_td_greatestDivisor_15 rfl (fun h2 => ?_) (fun h2 => ?_)
      · rw [if_pos h2] at hm
        refine lv_iload_n (pc := 34) hx hb d_td_greatestDivisor_34 rfl (lv_at hl 0 rfl) ?_
        cases hm
        rw [hQ]
        exact W.iret (pc := 35) hx hb hr (fun t ht _ => ⟨rfl, ht⟩) (fun _ h9 => nomatch h9) d_td_greatestDivisor_35
      rw [if_neg h2] at hm
      refine lv_iload_n (pc := 18) hx hb d_td_greatestDivisor_18 rfl (lv_at hl 0 rfl) ?_
      refine lv_iload_n (pc := 19) hx hb d_td_greatestDivisor_19 rfl (lv_at hl 1 rfl) ?_
      refine lv_irem (pc := 20) hx hb d_td_greatestDivisor_20 h2 ?_
      refine lv_istore (pc := 21) (lv' := [(5, .int (x2_7 - x2_7 / x3_7 * x3_7)), (2, .int x2_7), (3, .int x3_7), (4, .int x4_7)]) hx hb d_td_greatestDivisor_21 hl (Nat.le_of_ble_eq_true rfl) rfl (fun ls hl => ?_)
      refine lv_iload_n (pc := 23) hx hb d_td_greatestDivisor_23 rfl (lv_at hl 2 rfl) ?_
      refine lv_istore_n (pc := 24) (lv' := [(2, .int x3_7), (5, .int (x2_7 - x2_7 / x3_7 * x3_7)), (3, .int x3_7), (4, .int x4_7)]) hx hb d_td_greatestDivisor_24 rfl hl (Nat.le_of_ble_eq_true rfl) rfl (fun ls hl => ?_)
      refine lv_iload (pc := 25) hx hb d_td_greatestDivisor_25 (lv_at hl 1 rfl) ?_
      refine lv_istore_n (pc := 27) (lv' := [(3, .int (x2_7 - x2_7 / x3_7 * x3_7)), (2, .int x3_7), (5, .int (x2_7 - x2_7 / x3_7 * x3_7)), (4, .int x4_7)]) hx hb d_td_greatestDivisor_27 rfl hl (Nat.le_of_ble_eq_true rfl) rfl (fun ls hl => ?_)
      refine lv_iinc (pc := 28) (k := 3) (v := x4_7 + (1 : Int32)) (lv' := [(4, .int (x4_7 + (1 : Int32))), (3, .int (x2_7 - x2_7 / x3_7 * x3_7)), (2, .int x3_7), (5, .int (x2_7 - x2_7 / x3_7 * x3_7))]) hx hb d_td_greatestDivisor_28 hl rfl (congrArg (x4_7 + ·) (by decide)) (Nat.le_of_ble_eq_true rfl) rfl (fun ls hl => ?_)
      refine lv_goto (pc := 31) (tgt := 7) hx hb d_td_greatestDivisor_31 rfl ?_
      exact ih x3_7 (x2_7 - x2_7 / x3_7 * x3_7) (x4_7 + (1 : Int32)) ls (lv_sub hl [2, 1, 0] rfl) hm
  rw [a_td_greatestDivisor] at hm
  refine lv_iload_n (pc := 0) hx hb d_td_greatestDivisor_0 rfl (lv_at hl 0 rfl) ?_
  refine lv_istore_n (pc := 1) (lv' := [(2, .int i1), (0, .int i1), (1, .int i2)]) hx hb d_td_greatestDivisor_1 rfl hl (Nat.le_of_ble_eq_true rfl) rfl (fun ls hl => ?_)
  refine lv_iload_n (pc := 2) hx hb d_td_greatestDivisor_2 rfl (lv_at hl 2 rfl) ?_
  refine lv_istore_n (pc := 3) (lv' := [(3, .int i2), (2, .int i1), (0, .int i1), (1, .int i2)]) hx hb d_td_greatestDivisor_3 rfl hl (Nat.le_of_ble_eq_true rfl) rfl (fun ls hl => ?_)
  refine lv_iconst (pc := 4) (v := (0 : Int32)) hx hb d_td_greatestDivisor_4 (by decide) ?_
  refine lv_istore (pc := 5) (lv' := [(4, .int (0 : Int32)), (3, .int i2), (2, .int i1), (0, .int i1), (1, .int i2)]) hx hb d_td_greatestDivisor_5 hl (Nat.le_of_ble_eq_true rfl) rfl (fun ls hl => ?_)
  exact k7 N i1 i2 (0 : Int32) ls (lv_sub hl [2, 1, 0] rfl) hm
abbrev rm_td_discriminant : Room := { frames := 0, cells := 0, slots := 0, locals := 0 }
def a_td_discriminant (hc : Int32) (di : Int64) : Int64 := (if hc = 0 then (0 : Int64) else di)
set_option maxHeartbeats 4000000 in
set_option maxRecDepth 100000 in
theorem w_a_td_discriminant (l : Launch) (D : va_G) (cI cJ : ClassId) (qt : Nat) (hc : Int32) (ta : Int32) (tc : Int32) (qu : Nat) (qr : Nat) (sq : Int64) (li : Int64) (co : Int64) (di : Int64) (rc : Nat → Int32) (qd : Nat) (qw : Nat) (dn : Int32) (dq : Int64) (dr : Nat → Int32) (qf : Nat) (qx : Nat) (qy : Nat) (qo : Nat) (fn : Int32) (xs : Nat → Int32) (ys : Nat → Int32) (os : Nat → Int32) (r0 : Int64) (hm : a_td_discriminant hc di = r0) : Met l y_td_discriminant zs_td_discriminant rm_td_discriminant (zPc [.ref qt] D [(qt, .inr (3, [.ref qu, .ref qd, .ref qf, .int hc, .int ta, .int tc])), (qu, .inr (0, [.long sq, .long li, .long co, .long di, .ref qr])), (qr, .inl (cI, 97, .inl rc)), (qd, .inr (2, [.ref qw, .int dn, .long dq])), (qw, .inl (cI, 64, .inl dr)), (qf, .inr (1, [.ref qx, .ref qy, .ref qo, .int fn])), (qx, .inl (cI, 32, .inl xs)), (qy, .inl (cI, 32, .inl ys)), (qo, .inl (cI, 32, .inl os))] [(cI, .int), (cJ, .long)]) (zRd (some (.long r0))) 0 0 (fun _ => False) := by
  refine zm (by decide) (Nat.le_of_ble_eq_true rfl) ?_
  intro p e s m args below meth c R Q hR hQ hargs hx hb hml hr hlocks hnm hB hown hP hK hD0 ls hl
  have hown : s.vm.findClass "TorsionDesk" = some m.cls := hown
  have hl : lv_has ls 1 [(0, .ref qt)] := hl
  rw [a_td_discriminant] at hm
  refine lv_aload_n (pc := 0) hx hb d_td_discriminant_0 rfl (lv_at hl 0 rfl) ?_
  refine va_get (pc := 1) (D := D) (ci := 3) (v := .int hc) (C := "TorsionDesk") (T := tX3) (N := 6) hx hb hB lX3 hown hK hP 0 rfl rfl 3 (by decide) (hB _ zw_92) (fun _ h9 => h9) rfl d_td_discriminant_1 ?_
  refine lv_if_eq (pc := 4) (tgt := 17) hx hb d_td_discriminant_4 rfl (fun h1 => ?_) (fun h1 => ?_)
  · rw [if_pos h1] at hm
    refine lv_lconst (pc := 17) (v := (0 : Int64)) hx hb d_td_discriminant_17 (by decide) ?_
    subst hm
    rw [hQ]
    exact W.lret (pc := 18) hx hb hr (fun t ht _ => ⟨rfl, ht⟩) (fun _ h9 => nomatch h9) d_td_discriminant_18
  rw [if_neg h1] at hm
  refine lv_aload_n (pc := 7) hx hb d_td_discriminant_7 rfl (lv_at hl 0 rfl) ?_
  refine va_get (pc := 8) (D := D) (ci := 3) (v := .ref qu) (C := "TorsionDesk") (T := tX3) (N := 6) hx hb hB lX3 hown hK hP 0 rfl rfl 0 (by decide) (hB _ zw_89) (fun _ h9 => h9) rfl d_td_discriminant_8 ?_
  refine va_get (pc := 11) (D := D) (ci := 0) (v := .long di) (C := "TorsionDesk$Cubic") (T := tX0) (N := 5) hx hb hB lX0 hown hK hP 1 rfl rfl 3 (by decide) (hB _ zw_32) (fun _ h9 => h9) rfl d_td_discriminant_11 ?_
  refine lv_goto (pc := 14) (tgt := 18) hx hb d_td_discriminant_14 rfl ?_
  subst hm
  rw [hQ]
  exact W.lret (pc := 18) hx hb hr (fun t ht _ => ⟨rfl, ht⟩) (fun _ h9 => nomatch h9) d_td_discriminant_18
abbrev rm_td_candidate : Room := { frames := 0, cells := 0, slots := 0, locals := 0 }
def a_td_candidate (dn : Int32) (dr : Nat → Int32) (i1 : Int32) : Option (Int32) := (if i1 < 0 then (some (-1 : Int32)) else (if dn ≤ i1 then (some (-1 : Int32)) else (if (i1 < 0 ∨ 64 ≤ i1.toNatClampNeg) then none else (some (dr i1.toNatClampNeg)))))
set_option maxHeartbeats 4000000 in
set_option maxRecDepth 100000 in
theorem w_a_td_candidate (l : Launch) (D : va_G) (cI cJ : ClassId) (qt : Nat) (hc : Int32) (ta : Int32) (tc : Int32) (qu : Nat) (qr : Nat) (sq : Int64) (li : Int64) (co : Int64) (di : Int64) (rc : Nat → Int32) (qd : Nat) (qw : Nat) (dn : Int32) (dq : Int64) (dr : Nat → Int32) (qf : Nat) (qx : Nat) (qy : Nat) (qo : Nat) (fn : Int32) (xs : Nat → Int32) (ys : Nat → Int32) (os : Nat → Int32) (i1 : Int32) (r0 : Int32) (hm : a_td_candidate dn dr i1 = some r0) : Met l y_td_candidate zs_td_candidate rm_td_candidate (zPc [.ref qt, .int i1] D [(qt, .inr (3, [.ref qu, .ref qd, .ref qf, .int hc, .int ta, .int tc])), (qu, .inr (0, [.long sq, .long li, .long co, .long di, .ref qr])), (qr, .inl (cI, 97, .inl rc)), (qd, .inr (2, [.ref qw, .int dn, .long dq])), (qw, .inl (cI, 64, .inl dr)), (qf, .inr (1, [.ref qx, .ref qy, .ref qo, .int fn])), (qx, .inl (cI, 32, .inl xs)), (qy, .inl (cI, 32, .inl ys)), (qo, .inl (cI, 32, .inl os))] [(cI, .int), (cJ, .long)]) (zRd (some (.int r0))) 0 0 (fun _ => False) := by
  refine zm (by decide) (Nat.le_of_ble_eq_true rfl) ?_
  intro p e s m args below meth c R Q hR hQ hargs hx hb hml hr hlocks hnm hB hown hP hK hD0 ls hl
  have hown : s.vm.findClass "TorsionDesk" = some m.cls := hown
  have hl : lv_has ls 2 [(0, .ref qt), (1, .int i1)] := hl
  rw [a_td_candidate] at hm
  refine lv_iload_n (pc := 0) hx hb d_td_candidate_0 rfl (lv_at hl 1 rfl) ?_
  refine lv_if_lt (pc := 1) (tgt := 27) hx hb d_td_candidate_1 rfl (fun h1 => ?_) (fun h1 => ?_)
  · rw [if_pos h1] at hm
    refine lv_iconst (pc := 27) (v := (-1 : Int32)) hx hb d_td_candidate_27 (by decide) ?_
    cases hm
    rw [hQ]
    exact W.iret (pc := 28) hx hb hr (fun t ht _ => ⟨rfl, ht⟩) (fun _ h9 => nomatch h9) d_td_candidate_28
  rw [if_neg h1] at hm
  refine lv_iload_n (pc := 4) hx hb d_td_candidate_4 rfl (lv_at hl 1 rfl) ?_
  refine lv_aload_n (pc := 5) hx hb d_td_candidate_5 rfl (lv_at hl 0 rfl) ?_
  refine va_get (pc := 6) (D := D) (ci := 3) (v := .ref qd) (C := "TorsionDesk") (T := tX3) (N := 6) hx hb hB lX3 hown hK hP 0 rfl rfl 1 (by decide) (hB _ zw_90) (fun _ h9 => h9) rfl d_td_candidate_6 ?_
  refine va_get (pc := 9) (D := D) (ci := 2) (v := .int dn) (C := "TorsionDesk$SquareDivisors") (T := tX2) (N := 3) hx hb hB lX2 hown hK hP 3 rfl rfl 1 (by decide) (hB _ zw_56) (fun _ h9 => h9) rfl d_td_candidate_9 ?_
  refine lv_icmp_ge (pc := 12) (tgt := 27) hx hb d_td_candidate_12 rfl (fun h2 => ?_) (fun h2 => ?_)
  · rw [if_pos h2] at hm
    refine lv_iconst (pc := 27) (v := (-1 : Int32)) hx hb d_td_candidate_27 (by decide) ?_
    cases hm
    rw [hQ]
    exact W.iret (pc := 28) hx hb hr (fun t ht _ => ⟨rfl, ht⟩) (fun _ h9 => nomatch h9) d_td_candidate_28
  rw [if_neg h2] at hm
  refine lv_aload_n (pc := 15) hx hb d_td_candidate_15 rfl (lv_at hl 0 rfl) ?_
  refine va_get (pc := 16) (D := D) (ci := 3) (v := .ref qd) (C := "TorsionDesk") (T := tX3) (N := 6) hx hb hB lX3 hown hK hP 0 rfl rfl 1 (by decide) (hB _ zw_90) (fun _ h9 => h9) rfl d_td_candidate_16 ?_
  refine va_get (pc := 19) (D := D) (ci := 2) (v := .ref qw) (C := "TorsionDesk$SquareDivisors") (T := tX2) (N := 3) hx hb hB lX2 hown hK hP 3 rfl rfl 0 (by decide) (hB _ zw_54) (fun _ h9 => h9) rfl d_td_candidate_19 ?_
  refine lv_iload_n (pc := 22) hx hb d_td_candidate_22 rfl (lv_at hl 1 rfl) ?_
  by_cases g3 : (i1 < 0 ∨ 64 ≤ i1.toNatClampNeg)
  · rw [if_pos g3] at hm; cases hm
  rw [if_neg g3] at hm
  refine va_iald (pc := 23) hx hb hK hP 4 0 rfl rfl g3 d_td_candidate_23 ?_
  refine lv_goto (pc := 24) (tgt := 28) hx hb d_td_candidate_24 rfl ?_
  cases hm
  rw [hQ]
  exact W.iret (pc := 28) hx hb hr (fun t ht _ => ⟨rfl, ht⟩) (fun _ h9 => nomatch h9) d_td_candidate_28
abbrev rm_td_points : Room := { frames := 0, cells := 0, slots := 0, locals := 0 }
def a_td_points (fn : Int32) : Int32 := fn
set_option maxHeartbeats 4000000 in
set_option maxRecDepth 100000 in
theorem w_a_td_points (l : Launch) (D : va_G) (cI cJ : ClassId) (qt : Nat) (hc : Int32) (ta : Int32) (tc : Int32) (qu : Nat) (qr : Nat) (sq : Int64) (li : Int64) (co : Int64) (di : Int64) (rc : Nat → Int32) (qd : Nat) (qw : Nat) (dn : Int32) (dq : Int64) (dr : Nat → Int32) (qf : Nat) (qx : Nat) (qy : Nat) (qo : Nat) (fn : Int32) (xs : Nat → Int32) (ys : Nat → Int32) (os : Nat → Int32) (r0 : Int32) (hm : a_td_points fn = r0) : Met l y_td_points zs_td_points rm_td_points (zPc [.ref qt] D [(qt, .inr (3, [.ref qu, .ref qd, .ref qf, .int hc, .int ta, .int tc])), (qu, .inr (0, [.long sq, .long li, .long co, .long di, .ref qr])), (qr, .inl (cI, 97, .inl rc)), (qd, .inr (2, [.ref qw, .int dn, .long dq])), (qw, .inl (cI, 64, .inl dr)), (qf, .inr (1, [.ref qx, .ref qy, .ref qo, .int fn])), (qx, .inl (cI, 32, .inl xs)), (qy, .inl (cI, 32, .inl ys)), (qo, .inl (cI, 32, .inl os))] [(cI, .int), (cJ, .long)]) (zRd (some (.int r0))) 0 0 (fun _ => False) := by
  refine zm (by decide) (Nat.le_of_ble_eq_true rfl) ?_
  intro p e s m args below meth c R Q hR hQ hargs hx hb hml hr hlocks hnm hB hown hP hK hD0 ls hl
  have hown : s.vm.findClass "TorsionDesk" = some m.cls := hown
  have hl : lv_has ls 1 [(0, .ref qt)] := hl
  rw [a_td_points] at hm
  refine lv_aload_n (pc := 0) hx hb d_td_points_0 rfl (lv_at hl 0 rfl) ?_
  refine va_get (pc := 1) (D := D) (ci := 3) (v := .ref qf) (C := "TorsionDesk") (T := tX3) (N := 6) hx hb hB lX3 hown hK hP 0 rfl rfl 2 (by decide) (hB _ zw_91) (fun _ h9 => h9) rfl d_td_points_1 ?_
  refine va_get (pc := 4) (D := D) (ci := 1) (v := .int fn) (C := "TorsionDesk$FinitePoints") (T := tX1) (N := 4) hx hb hB lX1 hown hK hP 5 rfl rfl 3 (by decide) (hB _ zw_79) (fun _ h9 => h9) rfl d_td_points_4 ?_
  subst hm
  rw [hQ]
  exact W.iret (pc := 7) hx hb hr (fun t ht _ => ⟨rfl, ht⟩) (fun _ h9 => nomatch h9) d_td_points_7
abbrev rm_td_point : Room := { frames := 1, cells := 0, slots := 0, locals := 22 }
def a_td_point (N : Nat) (ta : Int32) (tc : Int32) (fn : Int32) (xs : Nat → Int32) (ys : Nat → Int32) (os : Nat → Int32) (i1 : Int32) (i2 : Int32) : Option (Int32) := (if (a_fp_has fn i1) = 0 then (some (0 : Int32)) else (if i1 = 0 then (if i2 = (2 : Int32) then (some (1 : Int32)) else (some (0 : Int32))) else (if (i1 < 0 ∨ 32 ≤ i1.toNatClampNeg) then none else (if i2 = (0 : Int32) then (some (xs i1.toNatClampNeg)) else (if i2 = (1 : Int32) then (some (ys i1.toNatClampNeg)) else (if i2 = (2 : Int32) then (some (os i1.toNatClampNeg)) else (if i2 = (3 : Int32) then ((a_td_sharedTwos N (xs i1.toNatClampNeg) (2 : Int32)).bind (fun r_c130 => (some ((xs i1.toNatClampNeg) >>> (r_c130 &&& 31))))) else (if i2 = (4 : Int32) then ((a_td_sharedTwos N (xs i1.toNatClampNeg) (2 : Int32)).bind (fun r_c138 => (some ((4 : Int32) >>> (r_c138 &&& 31))))) else (if i2 = (5 : Int32) then ((a_td_sharedTwos N (((ys i1.toNatClampNeg) - (ta * (xs i1.toNatClampNeg))) - ((4 : Int32) * tc)) (3 : Int32)).bind (fun r_c148 => (some ((((ys i1.toNatClampNeg) - (ta * (xs i1.toNatClampNeg))) - ((4 : Int32) * tc)) >>> (r_c148 &&& 31))))) else (if i2 = (6 : Int32) then ((a_td_sharedTwos N (((ys i1.toNatClampNeg) - (ta * (xs i1.toNatClampNeg))) - ((4 : Int32) * tc)) (3 : Int32)).bind (fun r_c158 => (some ((8 : Int32) >>> (r_c158 &&& 31))))) else (some (0 : Int32))))))))))))
set_option maxHeartbeats 4000000 in
set_option maxRecDepth 100000 in
theorem w_a_td_point (l : Launch) (D : va_G) (cI cJ : ClassId) (qt : Nat) (hc : Int32) (ta : Int32) (tc : Int32) (qu : Nat) (qr : Nat) (sq : Int64) (li : Int64) (co : Int64) (di : Int64) (rc : Nat → Int32) (qd : Nat) (qw : Nat) (dn : Int32) (dq : Int64) (dr : Nat → Int32) (qf : Nat) (qx : Nat) (qy : Nat) (qo : Nat) (fn : Int32) (xs : Nat → Int32) (ys : Nat → Int32) (os : Nat → Int32) (i1 : Int32) (i2 : Int32) (N : Nat) (r0 : Int32) (hm : a_td_point N ta tc fn xs ys os i1 i2 = some r0) : Met l y_td_point zs_td_point rm_td_point (zPc [.ref qt, .int i1, .int i2] D [(qt, .inr (3, [.ref qu, .ref qd, .ref qf, .int hc, .int ta, .int tc])), (qu, .inr (0, [.long sq, .long li, .long co, .long di, .ref qr])), (qr, .inl (cI, 97, .inl rc)), (qd, .inr (2, [.ref qw, .int dn, .long dq])), (qw, .inl (cI, 64, .inl dr)), (qf, .inr (1, [.ref qx, .ref qy, .ref qo, .int fn])), (qx, .inl (cI, 32, .inl xs)), (qy, .inl (cI, 32, .inl ys)), (qo, .inl (cI, 32, .inl os))] [(cI, .int), (cJ, .long)]) (zRd (some (.int r0))) 0 0 (fun _ => False) := by
  refine zm (by decide) (Nat.le_of_ble_eq_true rfl) ?_
  intro p e s m args below meth c R Q hR hQ hargs hx hb hml hr hlocks hnm hB hown hP hK hD0 ls hl
  have hown : s.vm.findClass "TorsionDesk" = some m.cls := hown
  have hl : lv_has ls 6 [(0, .ref qt), (1, .int i1), (2, .int i2)] := hl
  rw [a_td_point] at hm
  refine lv_aload_n (pc := 0) hx hb d_td_point_0 rfl (lv_at hl 0 rfl) ?_
  refine va_get (pc := 1) (D := D) (ci := 3) (v := .ref qf) (C := "TorsionDesk") (T := tX3) (N := 6) hx hb hB lX3 hown hK hP 0 rfl rfl 2 (by decide) (hB _ zw_91) (fun _ h9 => h9) rfl d_td_point_1 ?_
  refine lv_iload_n (pc := 4) hx hb d_td_point_4 rfl (lv_at hl 1 rfl) ?_
  refine zcV (pc := 5) (As := [.int i1]) (rest := []) ⟨hx, hb, hml, hown, hB⟩ (w_a_fp_has l D cI cJ qf qx qy qo fn xs ys os i1 _ rfl) (cwV 1 hB (zgV zw_124 zw_125 zw_126 zw_4 zw_127) rfl rfl rfl (by decide +kernel) ⟨by rw [hR]; exact Nat.le_of_ble_eq_true rfl, by rw [hR]; exact Nat.le_of_ble_eq_true rfl⟩) hK (hP.sub (ws' := [(qf, .inr (1, [.ref qx, .ref qy, .ref qo, .int fn])), (qx, .inl (cI, 32, .inl xs)), (qy, .inl (cI, 32, .inl ys)), (qo, .inl (cI, 32, .inl os))]) [5, 6, 7, 8] rfl) (hD0.sub (ws' := [(qf, .inr (1, [.ref qx, .ref qy, .ref qo, .int fn])), (qx, .inl (cI, 32, .inl xs)), (qy, .inl (cI, 32, .inl ys)), (qo, .inl (cI, 32, .inl os))]) [5, 6, 7, 8] (by decide) rfl) rfl rfl rfl rfl hl.1 rfl (Nat.le_of_ble_eq_true rfl) d_td_point_5 ⟨Nat.zero_le _, Nat.zero_le _⟩ ?_
  refine lv_if_ne (pc := 8) (tgt := 13) hx hb d_td_point_8 rfl (fun h1 => ?_) (fun h1 => ?_)
  · rw [if_neg h1] at hm
    refine lv_iload_n (pc := 13) hx hb d_td_point_13 rfl (lv_at hl 1 rfl) ?_
    refine lv_if_ne (pc := 14) (tgt := 28) hx hb d_td_point_14 rfl (fun h2 => ?_) (fun h2 => ?_)
    · rw [if_neg h2] at hm
      refine lv_aload_n (pc := 28) hx hb d_td_point_28 rfl (lv_at hl 0 rfl) ?_
      refine va_get (pc := 29) (D := D) (ci := 3) (v := .ref qf) (C := "TorsionDesk") (T := tX3) (N := 6) hx hb hB lX3 hown hK hP 0 rfl rfl 2 (by decide) (hB _ zw_91) (fun _ h9 => h9) rfl d_td_point_29 ?_
      refine va_get (pc := 32) (D := D) (ci := 1) (v := .ref qx) (C := "TorsionDesk$FinitePoints") (T := tX1) (N := 4) hx hb hB lX1 hown hK hP 5 rfl rfl 0 (by decide) (hB _ zw_73) (fun _ h9 => h9) rfl d_td_point_32 ?_
      refine lv_iload_n (pc := 35) hx hb d_td_point_35 rfl (lv_at hl 1 rfl) ?_
      by_cases g3 : (i1 < 0 ∨ 32 ≤ i1.toNatClampNeg)
      · rw [if_pos g3] at hm; cases hm
      rw [if_neg g3] at hm
      refine va_iald (pc := 36) hx hb hK hP 6 0 rfl rfl g3 d_td_point_36 ?_
      refine lv_istore_n (pc := 37) (lv' := [(3, .int (xs i1.toNatClampNeg)), (0, .ref qt), (1, .int i1), (2, .int i2)]) hx hb d_td_point_37 rfl hl (Nat.le_of_ble_eq_true rfl) rfl (fun ls hl => ?_)
      refine lv_aload_n (pc := 38) hx hb d_td_point_38 rfl (lv_at hl 1 rfl) ?_
      refine va_get (pc := 39) (D := D) (ci := 3) (v := .ref qf) (C := "TorsionDesk") (T := tX3) (N := 6) hx hb hB lX3 hown hK hP 0 rfl rfl 2 (by decide) (hB _ zw_91) (fun _ h9 => h9) rfl d_td_point_39 ?_
      refine va_get (pc := 42) (D := D) (ci := 1) (v := .ref qy) (C := "TorsionDesk$FinitePoints") (T := tX1) (N := 4) hx hb hB lX1 hown hK hP 5 rfl rfl 1 (by decide) (hB _ zw_75) (fun _ h9 => h9) rfl d_td_point_42 ?_
      refine lv_iload_n (pc := 45) hx hb d_td_point_45 rfl (lv_at hl 2 rfl) ?_
      refine va_iald (pc := 46) hx hb hK hP 7 0 rfl rfl g3 d_td_point_46 ?_
      refine lv_istore (pc := 47) (lv' := [(4, .int (ys i1.toNatClampNeg)), (3, .int (xs i1.toNatClampNeg)), (0, .ref qt), (1, .int i1), (2, .int i2)]) hx hb d_td_point_47 hl (Nat.le_of_ble_eq_true rfl) rfl (fun ls hl => ?_)
      refine lv_iload (pc := 49) hx hb d_td_point_49 (lv_at hl 0 rfl) ?_
      refine lv_aload_n (pc := 51) hx hb d_td_point_51 rfl (lv_at hl 2 rfl) ?_
      refine va_get (pc := 52) (D := D) (ci := 3) (v := .int ta) (C := "TorsionDesk") (T := tX3) (N := 6) hx hb hB lX3 hown hK hP 0 rfl rfl 4 (by decide) (hB _ zw_93) (fun _ h9 => h9) rfl d_td_point_52 ?_
      refine lv_iload_n (pc := 55) hx hb d_td_point_55 rfl (lv_at hl 1 rfl) ?_
      refine lv_imul (pc := 56) hx hb d_td_point_56 ?_
      refine lv_isub (pc := 57) hx hb d_td_point_57 ?_
      refine lv_iconst (pc := 58) (v := (4 : Int32)) hx hb d_td_point_58 (by decide) ?_
      refine lv_aload_n (pc := 59) hx hb d_td_point_59 rfl (lv_at hl 2 rfl) ?_
      refine va_get (pc := 60) (D := D) (ci := 3) (v := .int tc) (C := "TorsionDesk") (T := tX3) (N := 6) hx hb hB lX3 hown hK hP 0 rfl rfl 5 (by decide) (hB _ zw_94) (fun _ h9 => h9) rfl d_td_point_60 ?_
      refine lv_imul (pc := 63) hx hb d_td_point_63 ?_
      refine lv_isub (pc := 64) hx hb d_td_point_64 ?_
      refine lv_istore (pc := 65) (lv' := [(5, .int (((ys i1.toNatClampNeg) - (ta * (xs i1.toNatClampNeg))) - ((4 : Int32) * tc))), (4, .int (ys i1.toNatClampNeg)), (3, .int (xs i1.toNatClampNeg)), (0, .ref qt), (1, .int i1), (2, .int i2)]) hx hb d_td_point_65 hl (Nat.le_of_ble_eq_true rfl) rfl (fun ls hl => ?_)
      refine lv_iload_n (pc := 67) hx hb d_td_point_67 rfl (lv_at hl 5 rfl) ?_
      by_cases h4 : i2 = (0 : Int32)
      · rw [if_pos h4] at hm
        refine lv_tableIn (pc := 68) (tgt := 112) hx hb d_td_point_68 (by rw [h4]; decide) (by rw [h4]; decide) (by rw [h4]; rfl) rfl ?_
        refine lv_iload_n (pc := 112) hx hb d_td_point_112 rfl (lv_at hl 2 rfl) ?_
        cases hm
        rw [hQ]
        exact W.iret (pc := 113) hx hb hr (fun t ht _ => ⟨rfl, ht⟩) (fun _ h9 => nomatch h9) d_td_point_113
      rw [if_neg h4] at hm
      by_cases h5 : i2 = (1 : Int32)
      · rw [if_pos h5] at hm
        refine lv_tableIn (pc := 68) (tgt := 114) hx hb d_td_point_68 (by rw [h5]; decide) (by rw [h5]; decide) (by rw [h5]; rfl) rfl ?_
        refine lv_iload (pc := 114) hx hb d_td_point_114 (lv_at hl 1 rfl) ?_
        cases hm
        rw [hQ]
        exact W.iret (pc := 116) hx hb hr (fun t ht _ => ⟨rfl, ht⟩) (fun _ h9 => nomatch h9) d_td_point_116
      rw [if_neg h5] at hm
      by_cases h6 : i2 = (2 : Int32)
      · rw [if_pos h6] at hm
        refine lv_tableIn (pc := 68) (tgt := 117) hx hb d_td_point_68 (by rw [h6]; decide) (by rw [h6]; decide) (by rw [h6]; rfl) rfl ?_
        refine lv_aload_n (pc := 117) hx hb d_td_point_117 rfl (lv_at hl 3 rfl) ?_
        refine va_get (pc := 118) (D := D) (ci := 3) (v := .ref qf) (C := "TorsionDesk") (T := tX3) (N := 6) hx hb hB lX3 hown hK hP 0 rfl rfl 2 (by decide) (hB _ zw_91) (fun _ h9 => h9) rfl d_td_point_118 ?_
        refine va_get (pc := 121) (D := D) (ci := 1) (v := .ref qo) (C := "TorsionDesk$FinitePoints") (T := tX1) (N := 4) hx hb hB lX1 hown hK hP 5 rfl rfl 2 (by decide) (hB _ zw_77) (fun _ h9 => h9) rfl d_td_point_121 ?_
        refine lv_iload_n (pc := 124) hx hb d_td_point_124 rfl (lv_at hl 4 rfl) ?_
        refine va_iald (pc := 125) hx hb hK hP 8 0 rfl rfl g3 d_td_point_125 ?_
        cases hm
        rw [hQ]
        exact W.iret (pc := 126) hx hb hr (fun t ht _ => ⟨rfl, ht⟩) (fun _ h9 => nomatch h9) d_td_point_126
      rw [if_neg h6] at hm
      by_cases h7 : i2 = (3 : Int32)
      · rw [if_pos h7] at hm
        refine lv_tableIn (pc := 68) (tgt := 127) hx hb d_td_point_68 (by rw [h7]; decide) (by rw [h7]; decide) (by rw [h7]; rfl) rfl ?_
        refine lv_iload_n (pc := 127) hx hb d_td_point_127 rfl (lv_at hl 2 rfl) ?_
        refine lv_iload_n (pc := 128) hx hb d_td_point_128 rfl (lv_at hl 2 rfl) ?_
        refine lv_iconst (pc := 129) (v := (2 : Int32)) hx hb d_td_point_129 (by decide) ?_
        obtain ⟨r_c130, c8, hm⟩ := zbind hm
        try dsimp only at hm
        refine zcS (pc := 130) (As := [.int (xs i1.toNatClampNeg), .int (2 : Int32)]) (rest := [.int (xs i1.toNatClampNeg)]) ⟨hx, hb, hml, hown, hB⟩ (w_a_td_sharedTwos l D cI cJ (xs i1.toNatClampNeg) (2 : Int32) N r_c130 c8) (va_cwS 2 hB (zgS zw_128 zw_129 zw_1 zw_130) rfl rfl rfl (by decide +kernel) ⟨by rw [hR]; exact Nat.le_of_ble_eq_true rfl, by rw [hR]; exact Nat.le_of_ble_eq_true rfl⟩) hK (hP.sub (ws' := []) [] rfl) (hD0.sub (ws' := []) [] (by decide) rfl) rfl hl.1 rfl (Nat.le_of_ble_eq_true rfl) d_td_point_130 ⟨Nat.zero_le _, Nat.zero_le _⟩ ?_
        refine lv_ishr (pc := 133) hx hb d_td_point_133 ?_
        cases hm
        rw [hQ]
        exact W.iret (pc := 134) hx hb hr (fun t ht _ => ⟨rfl, ht⟩) (fun _ h9 => nomatch h9) d_td_point_134
      rw [if_neg h7] at hm
      by_cases h9 : i2 = (4 : Int32)
      · rw [if_pos h9] at hm
        refine lv_tableIn (pc := 68) (tgt := 135) hx hb d_td_point_68 (by rw [h9]; decide) (by rw [h9]; decide) (by rw [h9]; rfl) rfl ?_
        refine lv_iconst (pc := 135) (v := (4 : Int32)) hx hb d_td_point_135 (by decide) ?_
        refine lv_iload_n (pc := 136) hx hb d_td_point_136 rfl (lv_at hl 2 rfl) ?_
        refine lv_iconst (pc := 137) (v := (2 : Int32)) hx hb d_td_point_137 (by decide) ?_
        obtain ⟨r_c138, c10, hm⟩ := zbind hm
        try dsimp only at hm
        refine zcS (pc := 138) (As := [.int (xs i1.toNatClampNeg), .int (2 : Int32)]) (rest := [.int (4 : Int32)]) ⟨hx, hb, hml, hown, hB⟩ (w_a_td_sharedTwos l D cI cJ (xs i1.toNatClampNeg) (2 : Int32) N r_c138 c10) (va_cwS 2 hB (zgS zw_128 zw_129 zw_1 zw_130) rfl rfl rfl (by decide +kernel) ⟨by rw [hR]; exact Nat.le_of_ble_eq_true rfl, by rw [hR]; exact Nat.le_of_ble_eq_true rfl⟩) hK (hP.sub (ws' := []) [] rfl) (hD0.sub (ws' := []) [] (by decide) rfl) rfl hl.1 rfl (Nat.le_of_ble_eq_true rfl) d_td_point_138 ⟨Nat.zero_le _, Nat.zero_le _⟩ ?_
        refine lv_ishr (pc := 141) hx hb d_td_point_141 ?_
        cases hm
        rw [hQ]
        exact W.iret (pc := 142) hx hb hr (fun t ht _ => ⟨rfl, ht⟩) (fun _ h9 => nomatch h9) d_td_point_142
      rw [if_neg h9] at hm
      by_cases h11 : i2 = (5 : Int32)
      · rw [if_pos h11] at hm
        refine lv_tableIn (pc := 68) (tgt := 143) hx hb d_td_point_68 (by rw [h11]; decide) (by rw [h11]; decide) (by rw [h11]; rfl) rfl ?_
        refine lv_iload (pc := 143) hx hb d_td_point_143 (lv_at hl 0 rfl) ?_
        refine lv_iload (pc := 145) hx hb d_td_point_145 (lv_at hl 0 rfl) ?_
        refine lv_iconst (pc := 147) (v := (3 : Int32)) hx hb d_td_point_147 (by decide) ?_
        obtain ⟨r_c148, c12, hm⟩ := zbind hm
        try dsimp only at hm
        refine zcS (pc := 148) (As := [.int (((ys i1.toNatClampNeg) - (ta * (xs i1.toNatClampNeg))) - ((4 : Int32) * tc)), .int (3 : Int32)]) (rest := [.int (((ys i1.toNatClampNeg) - (ta * (xs i1.toNatClampNeg))) - ((4 : Int32) * tc))]) ⟨hx, hb, hml, hown, hB⟩ (w_a_td_sharedTwos l D cI cJ (((ys i1.toNatClampNeg) - (ta * (xs i1.toNatClampNeg))) - ((4 : Int32) * tc)) (3 : Int32) N r_c148 c12) (va_cwS 2 hB (zgS zw_128 zw_129 zw_1 zw_130) rfl rfl rfl (by decide +kernel) ⟨by rw [hR]; exact Nat.le_of_ble_eq_true rfl, by rw [hR]; exact Nat.le_of_ble_eq_true rfl⟩) hK (hP.sub (ws' := []) [] rfl) (hD0.sub (ws' := []) [] (by decide) rfl) rfl hl.1 rfl (Nat.le_of_ble_eq_true rfl) d_td_point_148 ⟨Nat.zero_le _, Nat.zero_le _⟩ ?_
        refine lv_ishr (pc := 151) hx hb d_td_point_151 ?_
        cases hm
        rw [hQ]
        exact W.iret (pc := 152) hx hb hr (fun t ht _ => ⟨rfl, ht⟩) (fun _ h9 => nomatch h9) d_td_point_152
      rw [if_neg h11] at hm
      by_cases h13 : i2 = (6 : Int32)
      · rw [if_pos h13] at hm
        refine lv_tableIn (pc := 68) (tgt := 153) hx hb d_td_point_68 (by rw [h13]; decide) (by rw [h13]; decide) (by rw [h13]; rfl) rfl ?_
        refine lv_bipush (pc := 153) (v := (8 : Int32)) hx hb d_td_point_153 (by decide) ?_
        refine lv_iload (pc := 155) hx hb d_td_point_155 (lv_at hl 0 rfl) ?_
        refine lv_iconst (pc := 157) (v := (3 : Int32)) hx hb d_td_point_157 (by decide) ?_
        obtain ⟨r_c158, c14, hm⟩ := zbind hm
        try dsimp only at hm
        refine zcS (pc := 158) (As := [.int (((ys i1.toNatClampNeg) - (ta * (xs i1.toNatClampNeg))) - ((4 : Int32) * tc)), .int (3 : Int32)]) (rest := [.int (8 : Int32)]) ⟨hx, hb, hml, hown, hB⟩ (w_a_td_sharedTwos l D cI cJ (((ys i1.toNatClampNeg) - (ta * (xs i1.toNatClampNeg))) - ((4 : Int32) * tc)) (3 : Int32) N r_c158 c14) (va_cwS 2 hB (zgS zw_128 zw_129 zw_1 zw_130) rfl rfl rfl (by decide +kernel) ⟨by rw [hR]; exact Nat.le_of_ble_eq_true rfl, by rw [hR]; exact Nat.le_of_ble_eq_true rfl⟩) hK (hP.sub (ws' := []) [] rfl) (hD0.sub (ws' := []) [] (by decide) rfl) rfl hl.1 rfl (Nat.le_of_ble_eq_true rfl) d_td_point_158 ⟨Nat.zero_le _, Nat.zero_le _⟩ ?_
        refine lv_ishr (pc := 161) hx hb d_td_point_161 ?_
        cases hm
        rw [hQ]
        exact W.iret (pc := 162) hx hb hr (fun t ht _ => ⟨rfl, ht⟩) (fun _ h9 => nomatch h9) d_td_point_162
      rw [if_neg h13] at hm
      have eh4 := lv_neT h4 (a := 0) (by decide)
      have eh5 := lv_neT h5 (a := 1) (by decide)
      have eh6 := lv_neT h6 (a := 2) (by decide)
      have eh7 := lv_neT h7 (a := 3) (by decide)
      have eh9 := lv_neT h9 (a := 4) (by decide)
      have eh11 := lv_neT h11 (a := 5) (by decide)
      have eh13 := lv_neT h13 (a := 6) (by decide)
      refine lv_tableOut (pc := 68) (tgt := 163) hx hb d_td_point_68 (by omega) rfl ?_
      refine lv_iconst (pc := 163) (v := (0 : Int32)) hx hb d_td_point_163 (by decide) ?_
      cases hm
      rw [hQ]
      exact W.iret (pc := 164) hx hb hr (fun t ht _ => ⟨rfl, ht⟩) (fun _ h9 => nomatch h9) d_td_point_164
    rw [if_pos h2] at hm
    refine lv_iload_n (pc := 17) hx hb d_td_point_17 rfl (lv_at hl 2 rfl) ?_
    refine lv_iconst (pc := 18) (v := (2 : Int32)) hx hb d_td_point_18 (by decide) ?_
    refine lv_icmp_ne (pc := 19) (tgt := 26) hx hb d_td_point_19 rfl (fun h15 => ?_) (fun h15 => ?_)
    · rw [if_neg h15] at hm
      refine lv_iconst (pc := 26) (v := (0 : Int32)) hx hb d_td_point_26 (by decide) ?_
      cases hm
      rw [hQ]
      exact W.iret (pc := 27) hx hb hr (fun t ht _ => ⟨rfl, ht⟩) (fun _ h9 => nomatch h9) d_td_point_27
    rw [if_pos h15] at hm
    refine lv_iconst (pc := 22) (v := (1 : Int32)) hx hb d_td_point_22 (by decide) ?_
    refine lv_goto (pc := 23) (tgt := 27) hx hb d_td_point_23 rfl ?_
    cases hm
    rw [hQ]
    exact W.iret (pc := 27) hx hb hr (fun t ht _ => ⟨rfl, ht⟩) (fun _ h9 => nomatch h9) d_td_point_27
  rw [if_pos h1] at hm
  refine lv_iconst (pc := 11) (v := (0 : Int32)) hx hb d_td_point_11 (by decide) ?_
  cases hm
  rw [hQ]
  exact W.iret (pc := 12) hx hb hr (fun t ht _ => ⟨rfl, ht⟩) (fun _ h9 => nomatch h9) d_td_point_12
abbrev rm_td_find : Room := { frames := 1, cells := 0, slots := 0, locals := 25 }
def a_td_find (N : Nat) (fn : Int32) (xs : Nat → Int32) (ys : Nat → Int32) (i1 : Int32) (i2 : Int32) : Option (Int32) := ((a_fp_numberOf N fn xs ys i1.toInt64 i2.toInt64).bind (fun r_c8 => (some r_c8)))
set_option maxHeartbeats 4000000 in
set_option maxRecDepth 100000 in
theorem w_a_td_find (l : Launch) (D : va_G) (cI cJ : ClassId) (qt : Nat) (hc : Int32) (ta : Int32) (tc : Int32) (qu : Nat) (qr : Nat) (sq : Int64) (li : Int64) (co : Int64) (di : Int64) (rc : Nat → Int32) (qd : Nat) (qw : Nat) (dn : Int32) (dq : Int64) (dr : Nat → Int32) (qf : Nat) (qx : Nat) (qy : Nat) (qo : Nat) (fn : Int32) (xs : Nat → Int32) (ys : Nat → Int32) (os : Nat → Int32) (i1 : Int32) (i2 : Int32) (N : Nat) (r0 : Int32) (hm : a_td_find N fn xs ys i1 i2 = some r0) : Met l y_td_find zs_td_find rm_td_find (zPc [.ref qt, .int i1, .int i2] D [(qt, .inr (3, [.ref qu, .ref qd, .ref qf, .int hc, .int ta, .int tc])), (qu, .inr (0, [.long sq, .long li, .long co, .long di, .ref qr])), (qr, .inl (cI, 97, .inl rc)), (qd, .inr (2, [.ref qw, .int dn, .long dq])), (qw, .inl (cI, 64, .inl dr)), (qf, .inr (1, [.ref qx, .ref qy, .ref qo, .int fn])), (qx, .inl (cI, 32, .inl xs)), (qy, .inl (cI, 32, .inl ys)), (qo, .inl (cI, 32, .inl os))] [(cI, .int), (cJ, .long)]) (zRd (some (.int r0))) 0 0 (fun _ => False) := by
  refine zm (by decide) (Nat.le_of_ble_eq_true rfl) ?_
  intro p e s m args below meth c R Q hR hQ hargs hx hb hml hr hlocks hnm hB hown hP hK hD0 ls hl
  have hown : s.vm.findClass "TorsionDesk" = some m.cls := hown
  have hl : lv_has ls 3 [(0, .ref qt), (1, .int i1), (2, .int i2)] := hl
  rw [a_td_find] at hm
  refine lv_aload_n (pc := 0) hx hb d_td_find_0 rfl (lv_at hl 0 rfl) ?_
  refine va_get (pc := 1) (D := D) (ci := 3) (v := .ref qf) (C := "TorsionDesk") (T := tX3) (N := 6) hx hb hB lX3 hown hK hP 0 rfl rfl 2 (by decide) (hB _ zw_91) (fun _ h9 => h9) rfl d_td_find_1 ?_
  refine lv_iload_n (pc := 4) hx hb d_td_find_4 rfl (lv_at hl 1 rfl) ?_
  refine lv_i2l (pc := 5) hx hb d_td_find_5 rfl ?_
  refine lv_iload_n (pc := 6) hx hb d_td_find_6 rfl (lv_at hl 2 rfl) ?_
  refine lv_i2l (pc := 7) hx hb d_td_find_7 rfl ?_
  obtain ⟨r_c8, c1, hm⟩ := zbind hm
  try dsimp only at hm
  refine zcV (pc := 8) (As := [.long i1.toInt64, .long i2.toInt64]) (rest := []) ⟨hx, hb, hml, hown, hB⟩ (w_a_fp_numberOf l D cI cJ qf qx qy qo fn xs ys os i1.toInt64 i2.toInt64 N r_c8 c1) (cwV 2 hB (zgV zw_135 zw_136 zw_137 zw_4 zw_138) rfl rfl rfl (by decide +kernel) ⟨by rw [hR]; exact Nat.le_of_ble_eq_true rfl, by rw [hR]; exact Nat.le_of_ble_eq_true rfl⟩) hK (hP.sub (ws' := [(qf, .inr (1, [.ref qx, .ref qy, .ref qo, .int fn])), (qx, .inl (cI, 32, .inl xs)), (qy, .inl (cI, 32, .inl ys)), (qo, .inl (cI, 32, .inl os))]) [5, 6, 7, 8] rfl) (hD0.sub (ws' := [(qf, .inr (1, [.ref qx, .ref qy, .ref qo, .int fn])), (qx, .inl (cI, 32, .inl xs)), (qy, .inl (cI, 32, .inl ys)), (qo, .inl (cI, 32, .inl os))]) [5, 6, 7, 8] (by decide) rfl) rfl rfl rfl rfl hl.1 rfl (Nat.le_of_ble_eq_true rfl) d_td_find_8 ⟨Nat.zero_le _, Nat.zero_le _⟩ ?_
  cases hm
  rw [hQ]
  exact W.iret (pc := 11) hx hb hr (fun t ht _ => ⟨rfl, ht⟩) (fun _ h9 => nomatch h9) d_td_find_11
abbrev rm_td_sum : Room := { frames := 2, cells := 0, slots := 0, locals := 61 }
def a_td_sum (N : Nat) (sq : Int64) (li : Int64) (fn : Int32) (xs : Nat → Int32) (ys : Nat → Int32) (i1 : Int32) (i2 : Int32) : Option (Int32) := ((a_fp_added N fn xs ys sq li i1 i2).bind (fun r_c10 => (some r_c10)))
set_option maxHeartbeats 4000000 in
set_option maxRecDepth 100000 in
theorem w_a_td_sum (l : Launch) (D : va_G) (cI cJ : ClassId) (qt : Nat) (hc : Int32) (ta : Int32) (tc : Int32) (qu : Nat) (qr : Nat) (sq : Int64) (li : Int64) (co : Int64) (di : Int64) (rc : Nat → Int32) (qd : Nat) (qw : Nat) (dn : Int32) (dq : Int64) (dr : Nat → Int32) (qf : Nat) (qx : Nat) (qy : Nat) (qo : Nat) (fn : Int32) (xs : Nat → Int32) (ys : Nat → Int32) (os : Nat → Int32) (i1 : Int32) (i2 : Int32) (N : Nat) (r0 : Int32) (hm : a_td_sum N sq li fn xs ys i1 i2 = some r0) : Met l y_td_sum zs_td_sum rm_td_sum (zPc [.ref qt, .int i1, .int i2] D [(qt, .inr (3, [.ref qu, .ref qd, .ref qf, .int hc, .int ta, .int tc])), (qu, .inr (0, [.long sq, .long li, .long co, .long di, .ref qr])), (qr, .inl (cI, 97, .inl rc)), (qd, .inr (2, [.ref qw, .int dn, .long dq])), (qw, .inl (cI, 64, .inl dr)), (qf, .inr (1, [.ref qx, .ref qy, .ref qo, .int fn])), (qx, .inl (cI, 32, .inl xs)), (qy, .inl (cI, 32, .inl ys)), (qo, .inl (cI, 32, .inl os))] [(cI, .int), (cJ, .long)]) (zRd (some (.int r0))) 0 0 (fun _ => False) := by
  refine zm (by decide) (Nat.le_of_ble_eq_true rfl) ?_
  intro p e s m args below meth c R Q hR hQ hargs hx hb hml hr hlocks hnm hB hown hP hK hD0 ls hl
  have hown : s.vm.findClass "TorsionDesk" = some m.cls := hown
  have hl : lv_has ls 3 [(0, .ref qt), (1, .int i1), (2, .int i2)] := hl
  rw [a_td_sum] at hm
  refine lv_aload_n (pc := 0) hx hb d_td_sum_0 rfl (lv_at hl 0 rfl) ?_
  refine va_get (pc := 1) (D := D) (ci := 3) (v := .ref qf) (C := "TorsionDesk") (T := tX3) (N := 6) hx hb hB lX3 hown hK hP 0 rfl rfl 2 (by decide) (hB _ zw_91) (fun _ h9 => h9) rfl d_td_sum_1 ?_
  refine lv_aload_n (pc := 4) hx hb d_td_sum_4 rfl (lv_at hl 0 rfl) ?_
  refine va_get (pc := 5) (D := D) (ci := 3) (v := .ref qu) (C := "TorsionDesk") (T := tX3) (N := 6) hx hb hB lX3 hown hK hP 0 rfl rfl 0 (by decide) (hB _ zw_89) (fun _ h9 => h9) rfl d_td_sum_5 ?_
  refine lv_iload_n (pc := 8) hx hb d_td_sum_8 rfl (lv_at hl 1 rfl) ?_
  refine lv_iload_n (pc := 9) hx hb d_td_sum_9 rfl (lv_at hl 2 rfl) ?_
  obtain ⟨r_c10, c1, hm⟩ := zbind hm
  try dsimp only at hm
  refine zcV (pc := 10) (As := [.ref qu, .int i1, .int i2]) (rest := []) ⟨hx, hb, hml, hown, hB⟩ (w_a_fp_added l D cI cJ qf qx qy qo fn xs ys os qu qr sq li co di rc i1 i2 N r_c10 c1) (cwV 3 hB (zgV zw_143 zw_144 zw_145 zw_4 zw_146) rfl rfl rfl (by decide +kernel) ⟨by rw [hR]; exact Nat.le_of_ble_eq_true rfl, by rw [hR]; exact Nat.le_of_ble_eq_true rfl⟩) hK (hP.sub (ws' := [(qf, .inr (1, [.ref qx, .ref qy, .ref qo, .int fn])), (qx, .inl (cI, 32, .inl xs)), (qy, .inl (cI, 32, .inl ys)), (qo, .inl (cI, 32, .inl os)), (qu, .inr (0, [.long sq, .long li, .long co, .long di, .ref qr])), (qr, .inl (cI, 97, .inl rc))]) [5, 6, 7, 8, 1, 2] rfl) (hD0.sub (ws' := [(qf, .inr (1, [.ref qx, .ref qy, .ref qo, .int fn])), (qx, .inl (cI, 32, .inl xs)), (qy, .inl (cI, 32, .inl ys)), (qo, .inl (cI, 32, .inl os)), (qu, .inr (0, [.long sq, .long li, .long co, .long di, .ref qr])), (qr, .inl (cI, 97, .inl rc))]) [5, 6, 7, 8, 1, 2] (by decide) rfl) rfl rfl rfl rfl hl.1 rfl (Nat.le_of_ble_eq_true rfl) d_td_sum_10 ⟨Nat.zero_le _, Nat.zero_le _⟩ ?_
  cases hm
  rw [hQ]
  exact W.iret (pc := 13) hx hb hr (fun t ht _ => ⟨rfl, ht⟩) (fun _ h9 => nomatch h9) d_td_sum_13
abbrev rm_td_times : Room := { frames := 3, cells := 0, slots := 0, locals := 88 }
def a_td_times (N : Nat) (sq : Int64) (li : Int64) (fn : Int32) (xs : Nat → Int32) (ys : Nat → Int32) (os : Nat → Int32) (i1 : Int32) (i2 : Int32) : Option (Int32) := ((a_fp_multiple N fn xs ys os sq li i1 i2).bind (fun r_c10 => (some r_c10)))
set_option maxHeartbeats 4000000 in
set_option maxRecDepth 100000 in
theorem w_a_td_times (l : Launch) (D : va_G) (cI cJ : ClassId) (qt : Nat) (hc : Int32) (ta : Int32) (tc : Int32) (qu : Nat) (qr : Nat) (sq : Int64) (li : Int64) (co : Int64) (di : Int64) (rc : Nat → Int32) (qd : Nat) (qw : Nat) (dn : Int32) (dq : Int64) (dr : Nat → Int32) (qf : Nat) (qx : Nat) (qy : Nat) (qo : Nat) (fn : Int32) (xs : Nat → Int32) (ys : Nat → Int32) (os : Nat → Int32) (i1 : Int32) (i2 : Int32) (N : Nat) (r0 : Int32) (hm : a_td_times N sq li fn xs ys os i1 i2 = some r0) : Met l y_td_times zs_td_times rm_td_times (zPc [.ref qt, .int i1, .int i2] D [(qt, .inr (3, [.ref qu, .ref qd, .ref qf, .int hc, .int ta, .int tc])), (qu, .inr (0, [.long sq, .long li, .long co, .long di, .ref qr])), (qr, .inl (cI, 97, .inl rc)), (qd, .inr (2, [.ref qw, .int dn, .long dq])), (qw, .inl (cI, 64, .inl dr)), (qf, .inr (1, [.ref qx, .ref qy, .ref qo, .int fn])), (qx, .inl (cI, 32, .inl xs)), (qy, .inl (cI, 32, .inl ys)), (qo, .inl (cI, 32, .inl os))] [(cI, .int), (cJ, .long)]) (zRd (some (.int r0))) 0 0 (fun _ => False) := by
  refine zm (by decide) (Nat.le_of_ble_eq_true rfl) ?_
  intro p e s m args below meth c R Q hR hQ hargs hx hb hml hr hlocks hnm hB hown hP hK hD0 ls hl
  have hown : s.vm.findClass "TorsionDesk" = some m.cls := hown
  have hl : lv_has ls 3 [(0, .ref qt), (1, .int i1), (2, .int i2)] := hl
  rw [a_td_times] at hm
  refine lv_aload_n (pc := 0) hx hb d_td_times_0 rfl (lv_at hl 0 rfl) ?_
  refine va_get (pc := 1) (D := D) (ci := 3) (v := .ref qf) (C := "TorsionDesk") (T := tX3) (N := 6) hx hb hB lX3 hown hK hP 0 rfl rfl 2 (by decide) (hB _ zw_91) (fun _ h9 => h9) rfl d_td_times_1 ?_
  refine lv_aload_n (pc := 4) hx hb d_td_times_4 rfl (lv_at hl 0 rfl) ?_
  refine va_get (pc := 5) (D := D) (ci := 3) (v := .ref qu) (C := "TorsionDesk") (T := tX3) (N := 6) hx hb hB lX3 hown hK hP 0 rfl rfl 0 (by decide) (hB _ zw_89) (fun _ h9 => h9) rfl d_td_times_5 ?_
  refine lv_iload_n (pc := 8) hx hb d_td_times_8 rfl (lv_at hl 1 rfl) ?_
  refine lv_iload_n (pc := 9) hx hb d_td_times_9 rfl (lv_at hl 2 rfl) ?_
  obtain ⟨r_c10, c1, hm⟩ := zbind hm
  try dsimp only at hm
  refine zcV (pc := 10) (As := [.ref qu, .int i1, .int i2]) (rest := []) ⟨hx, hb, hml, hown, hB⟩ (w_a_fp_multiple l D cI cJ qf qx qy qo fn xs ys os qu qr sq li co di rc i1 i2 N r_c10 c1) (cwV 3 hB (zgV zw_160 zw_161 zw_162 zw_4 zw_163) rfl rfl rfl (by decide +kernel) ⟨by rw [hR]; exact Nat.le_of_ble_eq_true rfl, by rw [hR]; exact Nat.le_of_ble_eq_true rfl⟩) hK (hP.sub (ws' := [(qf, .inr (1, [.ref qx, .ref qy, .ref qo, .int fn])), (qx, .inl (cI, 32, .inl xs)), (qy, .inl (cI, 32, .inl ys)), (qo, .inl (cI, 32, .inl os)), (qu, .inr (0, [.long sq, .long li, .long co, .long di, .ref qr])), (qr, .inl (cI, 97, .inl rc))]) [5, 6, 7, 8, 1, 2] rfl) (hD0.sub (ws' := [(qf, .inr (1, [.ref qx, .ref qy, .ref qo, .int fn])), (qx, .inl (cI, 32, .inl xs)), (qy, .inl (cI, 32, .inl ys)), (qo, .inl (cI, 32, .inl os)), (qu, .inr (0, [.long sq, .long li, .long co, .long di, .ref qr])), (qr, .inl (cI, 97, .inl rc))]) [5, 6, 7, 8, 1, 2] (by decide) rfl) rfl rfl rfl rfl hl.1 rfl (Nat.le_of_ble_eq_true rfl) d_td_times_10 ⟨Nat.zero_le _, Nat.zero_le _⟩ ?_
  cases hm
  rw [hQ]
  exact W.iret (pc := 13) hx hb hr (fun t ht _ => ⟨rfl, ht⟩) (fun _ h9 => nomatch h9) d_td_times_13
abbrev rm_td_structure : Room := { frames := 5, cells := 0, slots := 0, locals := 136 }
def a_td_structure (N : Nat) (hc : Int32) (sq : Int64) (li : Int64) (fn : Int32) (xs : Nat → Int32) (ys : Nat → Int32) (os : Nat → Int32) (i1 : Int32) : Option (Int32) := (if hc = 0 then (some (-1 : Int32)) else (if i1 = (0 : Int32) then ((a_fp_smallerFactor N fn os).bind (fun r_c44 => (some r_c44))) else (if i1 = (1 : Int32) then ((a_fp_greatestOrder N fn os).bind (fun r_c52 => (some r_c52))) else (if i1 = (2 : Int32) then ((a_fp_smallerMaker N fn xs ys os sq li).bind (fun r_c64 => (some r_c64))) else (if i1 = (3 : Int32) then ((a_fp_greaterMaker N fn os).bind (fun r_c72 => (some r_c72))) else (some (-1 : Int32)))))))
set_option maxHeartbeats 4000000 in
set_option maxRecDepth 100000 in
theorem w_a_td_structure (l : Launch) (D : va_G) (cI cJ : ClassId) (qt : Nat) (hc : Int32) (ta : Int32) (tc : Int32) (qu : Nat) (qr : Nat) (sq : Int64) (li : Int64) (co : Int64) (di : Int64) (rc : Nat → Int32) (qd : Nat) (qw : Nat) (dn : Int32) (dq : Int64) (dr : Nat → Int32) (qf : Nat) (qx : Nat) (qy : Nat) (qo : Nat) (fn : Int32) (xs : Nat → Int32) (ys : Nat → Int32) (os : Nat → Int32) (i1 : Int32) (N : Nat) (r0 : Int32) (hm : a_td_structure N hc sq li fn xs ys os i1 = some r0) : Met l y_td_structure zs_td_structure rm_td_structure (zPc [.ref qt, .int i1] D [(qt, .inr (3, [.ref qu, .ref qd, .ref qf, .int hc, .int ta, .int tc])), (qu, .inr (0, [.long sq, .long li, .long co, .long di, .ref qr])), (qr, .inl (cI, 97, .inl rc)), (qd, .inr (2, [.ref qw, .int dn, .long dq])), (qw, .inl (cI, 64, .inl dr)), (qf, .inr (1, [.ref qx, .ref qy, .ref qo, .int fn])), (qx, .inl (cI, 32, .inl xs)), (qy, .inl (cI, 32, .inl ys)), (qo, .inl (cI, 32, .inl os))] [(cI, .int), (cJ, .long)]) (zRd (some (.int r0))) 0 0 (fun _ => False) := by
  refine zm (by decide) (Nat.le_of_ble_eq_true rfl) ?_
  intro p e s m args below meth c R Q hR hQ hargs hx hb hml hr hlocks hnm hB hown hP hK hD0 ls hl
  have hown : s.vm.findClass "TorsionDesk" = some m.cls := hown
  have hl : lv_has ls 2 [(0, .ref qt), (1, .int i1)] := hl
  rw [a_td_structure] at hm
  refine lv_aload_n (pc := 0) hx hb d_td_structure_0 rfl (lv_at hl 0 rfl) ?_
  refine va_get (pc := 1) (D := D) (ci := 3) (v := .int hc) (C := "TorsionDesk") (T := tX3) (N := 6) hx hb hB lX3 hown hK hP 0 rfl rfl 3 (by decide) (hB _ zw_92) (fun _ h9 => h9) rfl d_td_structure_1 ?_
  refine lv_if_ne (pc := 4) (tgt := 9) hx hb d_td_structure_4 rfl (fun h1 => ?_) (fun h1 => ?_)
  · rw [if_neg h1] at hm
    refine lv_iload_n (pc := 9) hx hb d_td_structure_9 rfl (lv_at hl 1 rfl) ?_
    by_cases h2 : i1 = (0 : Int32)
    · rw [if_pos h2] at hm
      refine lv_tableIn (pc := 10) (tgt := 40) hx hb d_td_structure_10 (by rw [h2]; decide) (by rw [h2]; decide) (by rw [h2]; rfl) rfl ?_
      refine lv_aload_n (pc := 40) hx hb d_td_structure_40 rfl (lv_at hl 0 rfl) ?_
      refine va_get (pc := 41) (D := D) (ci := 3) (v := .ref qf) (C := "TorsionDesk") (T := tX3) (N := 6) hx hb hB lX3 hown hK hP 0 rfl rfl 2 (by decide) (hB _ zw_91) (fun _ h9 => h9) rfl d_td_structure_41 ?_
      obtain ⟨r_c44, c3, hm⟩ := zbind hm
      try dsimp only at hm
      refine zcV (pc := 44) (As := []) (rest := []) ⟨hx, hb, hml, hown, hB⟩ (w_a_fp_smallerFactor l D cI cJ qf qx qy qo fn xs ys os N r_c44 c3) (cwV 0 hB (zgV zw_172 zw_173 zw_174 zw_4 zw_175) rfl rfl rfl (by decide +kernel) ⟨by rw [hR]; exact Nat.le_of_ble_eq_true rfl, by rw [hR]; exact Nat.le_of_ble_eq_true rfl⟩) hK (hP.sub (ws' := [(qf, .inr (1, [.ref qx, .ref qy, .ref qo, .int fn])), (qx, .inl (cI, 32, .inl xs)), (qy, .inl (cI, 32, .inl ys)), (qo, .inl (cI, 32, .inl os))]) [5, 6, 7, 8] rfl) (hD0.sub (ws' := [(qf, .inr (1, [.ref qx, .ref qy, .ref qo, .int fn])), (qx, .inl (cI, 32, .inl xs)), (qy, .inl (cI, 32, .inl ys)), (qo, .inl (cI, 32, .inl os))]) [5, 6, 7, 8] (by decide) rfl) rfl rfl rfl rfl hl.1 rfl (Nat.le_of_ble_eq_true rfl) d_td_structure_44 ⟨Nat.zero_le _, Nat.zero_le _⟩ ?_
      cases hm
      rw [hQ]
      exact W.iret (pc := 47) hx hb hr (fun t ht _ => ⟨rfl, ht⟩) (fun _ h9 => nomatch h9) d_td_structure_47
    rw [if_neg h2] at hm
    by_cases h4 : i1 = (1 : Int32)
    · rw [if_pos h4] at hm
      refine lv_tableIn (pc := 10) (tgt := 48) hx hb d_td_structure_10 (by rw [h4]; decide) (by rw [h4]; decide) (by rw [h4]; rfl) rfl ?_
      refine lv_aload_n (pc := 48) hx hb d_td_structure_48 rfl (lv_at hl 0 rfl) ?_
      refine va_get (pc := 49) (D := D) (ci := 3) (v := .ref qf) (C := "TorsionDesk") (T := tX3) (N := 6) hx hb hB lX3 hown hK hP 0 rfl rfl 2 (by decide) (hB _ zw_91) (fun _ h9 => h9) rfl d_td_structure_49 ?_
      obtain ⟨r_c52, c5, hm⟩ := zbind hm
      try dsimp only at hm
      refine zcV (pc := 52) (As := []) (rest := []) ⟨hx, hb, hml, hown, hB⟩ (w_a_fp_greatestOrder l D cI cJ qf qx qy qo fn xs ys os N r_c52 c5) (cwV 0 hB (zgV zw_183 zw_177 zw_178 zw_4 zw_179) rfl rfl rfl (by decide +kernel) ⟨by rw [hR]; exact Nat.le_of_ble_eq_true rfl, by rw [hR]; exact Nat.le_of_ble_eq_true rfl⟩) hK (hP.sub (ws' := [(qf, .inr (1, [.ref qx, .ref qy, .ref qo, .int fn])), (qx, .inl (cI, 32, .inl xs)), (qy, .inl (cI, 32, .inl ys)), (qo, .inl (cI, 32, .inl os))]) [5, 6, 7, 8] rfl) (hD0.sub (ws' := [(qf, .inr (1, [.ref qx, .ref qy, .ref qo, .int fn])), (qx, .inl (cI, 32, .inl xs)), (qy, .inl (cI, 32, .inl ys)), (qo, .inl (cI, 32, .inl os))]) [5, 6, 7, 8] (by decide) rfl) rfl rfl rfl rfl hl.1 rfl (Nat.le_of_ble_eq_true rfl) d_td_structure_52 ⟨Nat.zero_le _, Nat.zero_le _⟩ ?_
      cases hm
      rw [hQ]
      exact W.iret (pc := 55) hx hb hr (fun t ht _ => ⟨rfl, ht⟩) (fun _ h9 => nomatch h9) d_td_structure_55
    rw [if_neg h4] at hm
    by_cases h6 : i1 = (2 : Int32)
    · rw [if_pos h6] at hm
      refine lv_tableIn (pc := 10) (tgt := 56) hx hb d_td_structure_10 (by rw [h6]; decide) (by rw [h6]; decide) (by rw [h6]; rfl) rfl ?_
      refine lv_aload_n (pc := 56) hx hb d_td_structure_56 rfl (lv_at hl 0 rfl) ?_
      refine va_get (pc := 57) (D := D) (ci := 3) (v := .ref qf) (C := "TorsionDesk") (T := tX3) (N := 6) hx hb hB lX3 hown hK hP 0 rfl rfl 2 (by decide) (hB _ zw_91) (fun _ h9 => h9) rfl d_td_structure_57 ?_
      refine lv_aload_n (pc := 60) hx hb d_td_structure_60 rfl (lv_at hl 0 rfl) ?_
      refine va_get (pc := 61) (D := D) (ci := 3) (v := .ref qu) (C := "TorsionDesk") (T := tX3) (N := 6) hx hb hB lX3 hown hK hP 0 rfl rfl 0 (by decide) (hB _ zw_89) (fun _ h9 => h9) rfl d_td_structure_61 ?_
      obtain ⟨r_c64, c7, hm⟩ := zbind hm
      try dsimp only at hm
      refine zcV (pc := 64) (As := [.ref qu]) (rest := []) ⟨hx, hb, hml, hown, hB⟩ (w_a_fp_smallerMaker l D cI cJ qf qx qy qo fn xs ys os qu qr sq li co di rc N r_c64 c7) (cwV 1 hB (zgV zw_184 zw_185 zw_186 zw_4 zw_187) rfl rfl rfl (by decide +kernel) ⟨by rw [hR]; exact Nat.le_of_ble_eq_true rfl, by rw [hR]; exact Nat.le_of_ble_eq_true rfl⟩) hK (hP.sub (ws' := [(qf, .inr (1, [.ref qx, .ref qy, .ref qo, .int fn])), (qx, .inl (cI, 32, .inl xs)), (qy, .inl (cI, 32, .inl ys)), (qo, .inl (cI, 32, .inl os)), (qu, .inr (0, [.long sq, .long li, .long co, .long di, .ref qr])), (qr, .inl (cI, 97, .inl rc))]) [5, 6, 7, 8, 1, 2] rfl) (hD0.sub (ws' := [(qf, .inr (1, [.ref qx, .ref qy, .ref qo, .int fn])), (qx, .inl (cI, 32, .inl xs)), (qy, .inl (cI, 32, .inl ys)), (qo, .inl (cI, 32, .inl os)), (qu, .inr (0, [.long sq, .long li, .long co, .long di, .ref qr])), (qr, .inl (cI, 97, .inl rc))]) [5, 6, 7, 8, 1, 2] (by decide) rfl) rfl rfl rfl rfl hl.1 rfl (Nat.le_of_ble_eq_true rfl) d_td_structure_64 ⟨Nat.zero_le _, Nat.zero_le _⟩ ?_
      cases hm
      rw [hQ]
      exact W.iret (pc := 67) hx hb hr (fun t ht _ => ⟨rfl, ht⟩) (fun _ h9 => nomatch h9) d_td_structure_67
    rw [if_neg h6] at hm
    by_cases h8 : i1 = (3 : Int32)
    · rw [if_pos h8] at hm
      refine lv_tableIn (pc := 10) (tgt := 68) hx hb d_td_structure_10 (by rw [h8]; decide) (by rw [h8]; decide) (by rw [h8]; rfl) rfl ?_
      refine lv_aload_n (pc := 68) hx hb d_td_structure_68 rfl (lv_at hl 0 rfl) ?_
      refine va_get (pc := 69) (D := D) (ci := 3) (v := .ref qf) (C := "TorsionDesk") (T := tX3) (N := 6) hx hb hB lX3 hown hK hP 0 rfl rfl 2 (by decide) (hB _ zw_91) (fun _ h9 => h9) rfl d_td_structure_69 ?_
      obtain ⟨r_c72, c9, hm⟩ := zbind hm
      try dsimp only at hm
      refine zcV (pc := 72) (As := []) (rest := []) ⟨hx, hb, hml, hown, hB⟩ (w_a_fp_greaterMaker l D cI cJ qf qx qy qo fn xs ys os N r_c72 c9) (cwV 0 hB (zgV zw_202 zw_190 zw_191 zw_4 zw_192) rfl rfl rfl (by decide +kernel) ⟨by rw [hR]; exact Nat.le_of_ble_eq_true rfl, by rw [hR]; exact Nat.le_of_ble_eq_true rfl⟩) hK (hP.sub (ws' := [(qf, .inr (1, [.ref qx, .ref qy, .ref qo, .int fn])), (qx, .inl (cI, 32, .inl xs)), (qy, .inl (cI, 32, .inl ys)), (qo, .inl (cI, 32, .inl os))]) [5, 6, 7, 8] rfl) (hD0.sub (ws' := [(qf, .inr (1, [.ref qx, .ref qy, .ref qo, .int fn])), (qx, .inl (cI, 32, .inl xs)), (qy, .inl (cI, 32, .inl ys)), (qo, .inl (cI, 32, .inl os))]) [5, 6, 7, 8] (by decide) rfl) rfl rfl rfl rfl hl.1 rfl (Nat.le_of_ble_eq_true rfl) d_td_structure_72 ⟨Nat.zero_le _, Nat.zero_le _⟩ ?_
      cases hm
      rw [hQ]
      exact W.iret (pc := 75) hx hb hr (fun t ht _ => ⟨rfl, ht⟩) (fun _ h9 => nomatch h9) d_td_structure_75
    rw [if_neg h8] at hm
    have eh2 := lv_neT h2 (a := 0) (by decide)
    have eh4 := lv_neT h4 (a := 1) (by decide)
    have eh6 := lv_neT h6 (a := 2) (by decide)
    have eh8 := lv_neT h8 (a := 3) (by decide)
    refine lv_tableOut (pc := 10) (tgt := 76) hx hb d_td_structure_10 (by omega) rfl ?_
    refine lv_iconst (pc := 76) (v := (-1 : Int32)) hx hb d_td_structure_76 (by decide) ?_
    cases hm
    rw [hQ]
    exact W.iret (pc := 77) hx hb hr (fun t ht _ => ⟨rfl, ht⟩) (fun _ h9 => nomatch h9) d_td_structure_77
  rw [if_pos h1] at hm
  refine lv_iconst (pc := 7) (v := (-1 : Int32)) hx hb d_td_structure_7 (by decide) ?_
  cases hm
  rw [hQ]
  exact W.iret (pc := 8) hx hb hr (fun t ht _ => ⟨rfl, ht⟩) (fun _ h9 => nomatch h9) d_td_structure_8
abbrev rm_td_isPrime : Room := { frames := 0, cells := 0, slots := 0, locals := 0 }
def a_td_isPrime_L9 (i1 : Int32) : Nat → Int32 → Option (Int32)
  | 0, _ => none
  | n + 1, x3_9 => (if (24 : Int32) ≤ x3_9 then (some (0 : Int32)) else (if x3_9 < 0 ∨ 24 ≤ x3_9.toNatClampNeg then none else (if (zpr x3_9.toNatClampNeg) = i1 then (some (1 : Int32)) else a_td_isPrime_L9 i1 n (x3_9 + (1 : Int32)))))
def a_td_isPrime (N : Nat) (i1 : Int32) : Option (Int32) := a_td_isPrime_L9 i1 N (0 : Int32)
set_option maxHeartbeats 4000000 in
set_option maxRecDepth 100000 in
theorem w_a_td_isPrime (l : Launch) (D : va_G) (cI cJ : ClassId) (i1 : Int32) (qp : Nat) (N : Nat) (r0 : Int32) (hm : a_td_isPrime N i1 = some r0) : Met l y_td_isPrime zs_td_isPrime rm_td_isPrime (zPx [.int i1] D [] [(cI, .int), (cJ, .long)] qp) (zRd (some (.int r0))) 0 0 (fun _ => False) := by
  refine zmX (by decide) (Nat.le_of_ble_eq_true rfl) ?_
  intro p e s m args below meth c R Q hR hQ hargs hx hb hml hr hlocks hnm hB hown hP hK hD0 hZ hT ls hl
  have hS : va_S (zIn []) s.heap s.heap [] := va_S.rf
  have hown : s.vm.findClass "TorsionDesk" = some m.cls := hown
  have hl : lv_has ls 5 [(0, .int i1)] := hl
  have k9 : ∀ (n : Nat) (x3_9 : Int32) (ls : Array Slot), lv_has ls 5 [(0, .int i1), (1, .ref qp), (2, .int (24 : Int32)), (3, .int x3_9)] → a_td_isPrime_L9 i1 n x3_9 = some r0 → W p l e R s m args below meth c s.heap [] 0 0 Q (F0 m 9 ls []) := by
    intro n
    induction n with
    | zero => intro x3_9  ls hl hm; rw [a_td_isPrime_L9] at hm; cases hm
    | succ n ih =>
      intro x3_9  ls hl hm
      rw [a_td_isPrime_L9] at hm
      refine lv_iload_n (pc := 9) hx hb d_td_isPrime_9 rfl (lv_at hl 3 rfl) ?_
      refine lv_iload_n (pc := 10) hx hb d_td_isPrime_10 rfl (lv_at hl 2 rfl) ?_
      refine lv_icmp_ge (pc := 11) (tgt := 33) hx hb d_td_isPrime_11 rfl (fun h1 => ?_) (fun h1 => ?_)
      · rw [if_pos h1] at hm
        refine lv_iconst (pc := 33) (v := (0 : Int32)) hx hb d_td_isPrime_33 (by decide) ?_
        cases hm
        rw [hQ]
        exact W.zret (pc := 34) hx hb hr rfl (fun t ht _ => ⟨rfl, ht⟩) (fun _ h9 => nomatch h9) d_td_isPrime_34
      rw [if_neg h1] at hm
      refine lv_aload_n (pc := 14) hx hb d_td_isPrime_14 rfl (lv_at hl 1 rfl) ?_
      refine lv_iload_n (pc := 15) hx hb d_td_isPrime_15 rfl (lv_at hl 3 rfl) ?_
      by_cases g2 : x3_9 < 0 ∨ 24 ≤ x3_9.toNatClampNeg
      · rw [if_pos g2] at hm; cases hm
      rw [if_neg g2] at hm
      refine va_ti (pc := 16) hx hb hT hS g2 rfl d_td_isPrime_16 ?_
      refine lv_istore (pc := 17) (lv' := [(4, .int (zpr x3_9.toNatClampNeg)), (0, .int i1), (1, .ref qp), (2, .int (24 : Int32)), (3, .int x3_9)]) hx hb d_td_isPrime_17 hl (Nat.le_of_ble_eq_true rfl) rfl (fun ls hl => ?_)
      refine lv_iload (pc := 19) hx hb d_td_isPrime_19 (lv_at hl 0 rfl) ?_
      refine lv_iload_n (pc := 21) hx hb d_td_isPrime_21 rfl (lv_at hl 1 rfl) ?_
      refine lv_icmp_ne (pc := 22) (tgt := 27) hx hb d_td_isPrime_22 rfl (fun h3 => ?_) (fun h3 => ?_)
      · rw [if_neg h3] at hm
        refine lv_iinc (pc := 27) (k := 4) (v := x3_9 + (1 : Int32)) (lv' := [(3, .int (x3_9 + (1 : Int32))), (4, .int (zpr x3_9.toNatClampNeg)), (0, .int i1), (1, .ref qp), (2, .int (24 : Int32))]) hx hb d_td_isPrime_27 hl rfl (congrArg (x3_9 + ·) (by decide)) (Nat.le_of_ble_eq_true rfl) rfl (fun ls hl => ?_)
        refine lv_goto (pc := 30) (tgt := 9) hx hb d_td_isPrime_30 rfl ?_
        exact ih (x3_9 + (1 : Int32)) ls (lv_sub hl [2, 3, 4, 0] rfl) hm
      rw [if_pos h3] at hm
      refine lv_iconst (pc := 25) (v := (1 : Int32)) hx hb d_td_isPrime_25 (by decide) ?_
      cases hm
      rw [hQ]
      exact W.zret (pc := 26) hx hb hr rfl (fun t ht _ => ⟨rfl, ht⟩) (fun _ h9 => nomatch h9) d_td_isPrime_26
  rw [a_td_isPrime] at hm
  refine va_gets (pc := 0) hx hb hZ hS hown (hB _ zw_207) (fun _ h9 => h9) d_td_isPrime_0 ?_
  refine lv_astore_n (pc := 3) (lv' := [(1, .ref qp), (0, .int i1)]) hx hb d_td_isPrime_3 rfl hl (Nat.le_of_ble_eq_true rfl) rfl (fun ls hl => ?_)
  refine lv_aload_n (pc := 4) hx hb d_td_isPrime_4 rfl (lv_at hl 0 rfl) ?_
  refine va_tlen (pc := 5) hx hb hT hS (v := (24 : Int32)) rfl d_td_isPrime_5 ?_
  refine lv_istore_n (pc := 6) (lv' := [(2, .int (24 : Int32)), (1, .ref qp), (0, .int i1)]) hx hb d_td_isPrime_6 rfl hl (Nat.le_of_ble_eq_true rfl) rfl (fun ls hl => ?_)
  refine lv_iconst (pc := 7) (v := (0 : Int32)) hx hb d_td_isPrime_7 (by decide) ?_
  refine lv_istore_n (pc := 8) (lv' := [(3, .int (0 : Int32)), (2, .int (24 : Int32)), (1, .ref qp), (0, .int i1)]) hx hb d_td_isPrime_8 rfl hl (Nat.le_of_ble_eq_true rfl) rfl (fun ls hl => ?_)
  exact k9 N (0 : Int32) ls (lv_sub hl [3, 2, 1, 0] rfl) hm
abbrev rm_td_bound : Room := { frames := 2, cells := 0, slots := 0, locals := 48 }
def a_td_bound_L28 (sq : Int64) (li : Int64) (co : Int64) (di : Int64) (i1 : Int32) : Nat → Int32 → (Nat → Int32) → Int32 → Option (Int32 × (Nat → Int32))
  | 0, _, _, _ => none
  | n + 1, x5_28, a2_28, x2_28 => (if (24 : Int32) ≤ x5_28 then (some (x2_28, a2_28)) else (if x5_28 < 0 ∨ 24 ≤ x5_28.toNatClampNeg then none else (if i1 < (zpr x5_28.toNatClampNeg) then a_td_bound_L28 sq li co di i1 n (x5_28 + (1 : Int32)) a2_28 x2_28 else ((a_cu_isGoodFor di (zpr x5_28.toNatClampNeg)).bind (fun r_c53 => (if r_c53 = 0 then a_td_bound_L28 sq li co di i1 n (x5_28 + (1 : Int32)) a2_28 x2_28 else ((a_cu_countFor n sq li co a2_28 (zpr x5_28.toNatClampNeg)).bind (fun (r_c66, o1_c66) => ((a_td_greatestDivisor n x2_28 r_c66).bind (fun r_c69 => a_td_bound_L28 sq li co di i1 n (x5_28 + (1 : Int32)) o1_c66 r_c69))))))))))
def a_td_bound (N : Nat) (hc : Int32) (sq : Int64) (li : Int64) (co : Int64) (di : Int64) (rc : Nat → Int32) (i1 : Int32) : Option (Int32 × (Nat → Int32)) := (if hc = 0 then (some ((0 : Int32), rc)) else (if i1 ≤ (97 : Int32) then a_td_bound_L28 sq li co di i1 N (0 : Int32) rc (0 : Int32) else (some ((0 : Int32), rc))))
set_option maxHeartbeats 4000000 in
set_option maxRecDepth 100000 in
theorem w_a_td_bound (l : Launch) (D : va_G) (cI cJ : ClassId) (qt : Nat) (hc : Int32) (ta : Int32) (tc : Int32) (qu : Nat) (qr : Nat) (sq : Int64) (li : Int64) (co : Int64) (di : Int64) (rc : Nat → Int32) (qd : Nat) (qw : Nat) (dn : Int32) (dq : Int64) (dr : Nat → Int32) (qf : Nat) (qx : Nat) (qy : Nat) (qo : Nat) (fn : Int32) (xs : Nat → Int32) (ys : Nat → Int32) (os : Nat → Int32) (i1 : Int32) (qp : Nat) (N : Nat) (r0 : Int32) (r1 : Nat → Int32) (hm : a_td_bound N hc sq li co di rc i1 = some (r0, r1)) : Met l y_td_bound zs_td_bound rm_td_bound (zPx [.ref qt, .int i1] D [(qt, .inr (3, [.ref qu, .ref qd, .ref qf, .int hc, .int ta, .int tc])), (qu, .inr (0, [.long sq, .long li, .long co, .long di, .ref qr])), (qr, .inl (cI, 97, .inl rc)), (qd, .inr (2, [.ref qw, .int dn, .long dq])), (qw, .inl (cI, 64, .inl dr)), (qf, .inr (1, [.ref qx, .ref qy, .ref qo, .int fn])), (qx, .inl (cI, 32, .inl xs)), (qy, .inl (cI, 32, .inl ys)), (qo, .inl (cI, 32, .inl os))] [(cI, .int), (cJ, .long)] qp) (zWr (some (.int r0)) D (zIn [(qt, .inr (3, [.ref qu, .ref qd, .ref qf, .int hc, .int ta, .int tc])), (qu, .inr (0, [.long sq, .long li, .long co, .long di, .ref qr])), (qr, .inl (cI, 97, .inl rc)), (qd, .inr (2, [.ref qw, .int dn, .long dq])), (qw, .inl (cI, 64, .inl dr)), (qf, .inr (1, [.ref qx, .ref qy, .ref qo, .int fn])), (qx, .inl (cI, 32, .inl xs)), (qy, .inl (cI, 32, .inl ys)), (qo, .inl (cI, 32, .inl os))]) [(qt, .inr (3, [.ref qu, .ref qd, .ref qf, .int hc, .int ta, .int tc])), (qu, .inr (0, [.long sq, .long li, .long co, .long di, .ref qr])), (qr, .inl (cI, 97, .inl r1)), (qd, .inr (2, [.ref qw, .int dn, .long dq])), (qw, .inl (cI, 64, .inl dr)), (qf, .inr (1, [.ref qx, .ref qy, .ref qo, .int fn])), (qx, .inl (cI, 32, .inl xs)), (qy, .inl (cI, 32, .inl ys)), (qo, .inl (cI, 32, .inl os))]) 0 0 (zIn [(qt, .inr (3, [.ref qu, .ref qd, .ref qf, .int hc, .int ta, .int tc])), (qu, .inr (0, [.long sq, .long li, .long co, .long di, .ref qr])), (qr, .inl (cI, 97, .inl rc)), (qd, .inr (2, [.ref qw, .int dn, .long dq])), (qw, .inl (cI, 64, .inl dr)), (qf, .inr (1, [.ref qx, .ref qy, .ref qo, .int fn])), (qx, .inl (cI, 32, .inl xs)), (qy, .inl (cI, 32, .inl ys)), (qo, .inl (cI, 32, .inl os))]) := by
  refine zmX (by decide) (Nat.le_of_ble_eq_true rfl) ?_
  intro p e s m args below meth c R Q hR hQ hargs hx hb hml hr hlocks hnm hB hown hP hK hD0 hZ hT ls hl
  have hown : s.vm.findClass "TorsionDesk" = some m.cls := hown
  have hl : lv_has ls 7 [(0, .ref qt), (1, .int i1)] := hl
  obtain ⟨A, hA⟩ : ∃ A, A = zIn [(qt, .inr (3, [.ref qu, .ref qd, .ref qf, .int hc, .int ta, .int tc])), (qu, .inr (0, [.long sq, .long li, .long co, .long di, .ref qr])), (qr, .inl (cI, 97, .inl rc)), (qd, .inr (2, [.ref qw, .int dn, .long dq])), (qw, .inl (cI, 64, .inl dr)), (qf, .inr (1, [.ref qx, .ref qy, .ref qo, .int fn])), (qx, .inl (cI, 32, .inl xs)), (qy, .inl (cI, 32, .inl ys)), (qo, .inl (cI, 32, .inl os))] := ⟨_, rfl⟩
  have hD : va_D A [(qt, .inr (3, [.ref qu, .ref qd, .ref qf, .int hc, .int ta, .int tc])), (qu, .inr (0, [.long sq, .long li, .long co, .long di, .ref qr])), (qr, .inl (cI, 97, .inl rc)), (qd, .inr (2, [.ref qw, .int dn, .long dq])), (qw, .inl (cI, 64, .inl dr)), (qf, .inr (1, [.ref qx, .ref qy, .ref qo, .int fn])), (qx, .inl (cI, 32, .inl xs)), (qy, .inl (cI, 32, .inl ys)), (qo, .inl (cI, 32, .inl os))] := by rw [hA]; exact zIn_self hD0
  have hS : va_S A s.heap s.heap [] := va_S.rf
  rw [← hA] at hQ
  rw [← hA] at hZ hT
  have k28 : ∀ (n : Nat) (x5_28 : Int32) (a2_28 : Nat → Int32) (x2_28 : Int32) (H : Heap) (locs : List Loc) (ls : Array Slot), lv_has ls 7 [(0, .ref qt), (1, .int i1), (2, .int x2_28), (3, .ref qp), (4, .int (24 : Int32)), (5, .int x5_28)] → va_P D vwCl [(qt, .inr (3, [.ref qu, .ref qd, .ref qf, .int hc, .int ta, .int tc])), (qu, .inr (0, [.long sq, .long li, .long co, .long di, .ref qr])), (qr, .inl (cI, 97, .inl a2_28)), (qd, .inr (2, [.ref qw, .int dn, .long dq])), (qw, .inl (cI, 64, .inl dr)), (qf, .inr (1, [.ref qx, .ref qy, .ref qo, .int fn])), (qx, .inl (cI, 32, .inl xs)), (qy, .inl (cI, 32, .inl ys)), (qo, .inl (cI, 32, .inl os))] H → va_D A [(qt, .inr (3, [.ref qu, .ref qd, .ref qf, .int hc, .int ta, .int tc])), (qu, .inr (0, [.long sq, .long li, .long co, .long di, .ref qr])), (qr, .inl (cI, 97, .inl a2_28)), (qd, .inr (2, [.ref qw, .int dn, .long dq])), (qw, .inl (cI, 64, .inl dr)), (qf, .inr (1, [.ref qx, .ref qy, .ref qo, .int fn])), (qx, .inl (cI, 32, .inl xs)), (qy, .inl (cI, 32, .inl ys)), (qo, .inl (cI, 32, .inl os))] → va_S A s.heap H locs → a_td_bound_L28 sq li co di i1 n x5_28 a2_28 x2_28 = some (r0, r1) → W p l e R s m args below meth c H locs 0 0 Q (F0 m 28 ls []) := by
    intro n
    induction n with
    | zero => intro x5_28 a2_28 x2_28  H locs ls hl hP hD hS hm; rw [a_td_bound_L28] at hm; cases hm
    | succ n ih =>
      intro x5_28 a2_28 x2_28  H locs ls hl hP hD hS hm
      rw [a_td_bound_L28] at hm
      refine lv_iload (pc := 28) hx hb d_td_bound_28 (lv_at hl 5 rfl) ?_
      refine lv_iload (pc := 30) hx hb d_td_bound_30 (lv_at hl 4 rfl) ?_
      refine lv_icmp_ge (pc := 32) (tgt := 79) hx hb d_td_bound_32 rfl (fun h1 => ?_) (fun h1 => ?_)
      · rw [if_pos h1] at hm
        refine lv_iload_n (pc := 79) hx hb d_td_bound_79 rfl (lv_at hl 2 rfl) ?_
        cases hm
        rw [hQ]
        exact W.iret (pc := 80) hx hb hr (fun t ht _ => ⟨rfl, by rw [ht]; exact hP, hS.F ht⟩) hS.2.2 d_td_bound_80
      rw [if_neg h1] at hm
      refine lv_aload_n (pc := 35) hx hb d_td_bound_35 rfl (lv_at hl 3 rfl) ?_
      refine lv_iload (pc := 36) hx hb d_td_bound_36 (lv_at hl 5 rfl) ?_
      by_cases g2 : x5_28 < 0 ∨ 24 ≤ x5_28.toNatClampNeg
      · rw [if_pos g2] at hm; cases hm
      rw [if_neg g2] at hm
      refine va_ti (pc := 38) hx hb hT hS g2 rfl d_td_bound_38 ?_
      refine lv_istore (pc := 39) (lv' := [(6, .int (zpr x5_28.toNatClampNeg)), (0, .ref qt), (1, .int i1), (2, .int x2_28), (3, .ref qp), (4, .int (24 : Int32)), (5, .int x5_28)]) hx hb d_td_bound_39 hl (Nat.le_of_ble_eq_true rfl) rfl (fun ls hl => ?_)
      refine lv_iload (pc := 41) hx hb d_td_bound_41 (lv_at hl 0 rfl) ?_
      refine lv_iload_n (pc := 43) hx hb d_td_bound_43 rfl (lv_at hl 2 rfl) ?_
      refine lv_icmp_gt (pc := 44) (tgt := 73) hx hb d_td_bound_44 rfl (fun h3 => ?_) (fun h3 => ?_)
      · rw [if_pos h3] at hm
        refine lv_iinc (pc := 73) (k := 6) (v := x5_28 + (1 : Int32)) (lv' := [(5, .int (x5_28 + (1 : Int32))), (6, .int (zpr x5_28.toNatClampNeg)), (0, .ref qt), (1, .int i1), (2, .int x2_28), (3, .ref qp), (4, .int (24 : Int32))]) hx hb d_td_bound_73 hl rfl (congrArg (x5_28 + ·) (by decide)) (Nat.le_of_ble_eq_true rfl) rfl (fun ls hl => ?_)
        refine lv_goto (pc := 76) (tgt := 28) hx hb d_td_bound_76 rfl ?_
        exact ih (x5_28 + (1 : Int32)) a2_28 x2_28 H locs ls (lv_sub hl [2, 3, 4, 5, 6, 0] rfl) hP hD hS hm
      rw [if_neg h3] at hm
      refine lv_aload_n (pc := 47) hx hb d_td_bound_47 rfl (lv_at hl 1 rfl) ?_
      refine va_get (pc := 48) (D := D) (ci := 3) (v := .ref qu) (C := "TorsionDesk") (T := tX3) (N := 6) hx hb hB lX3 hown hK hP 0 rfl rfl 0 (by decide) (hB _ zw_89) (fun _ h9 => h9) rfl d_td_bound_48 ?_
      refine lv_iload (pc := 51) hx hb d_td_bound_51 (lv_at hl 0 rfl) ?_
      obtain ⟨r_c53, c4, hm⟩ := zbind hm
      try dsimp only at hm
      refine zcV (pc := 53) (As := [.int (zpr x5_28.toNatClampNeg)]) (rest := []) ⟨hx, hb, hml, hown, hB⟩ (w_a_cu_isGoodFor l D cI cJ qu qr sq li co di a2_28 (zpr x5_28.toNatClampNeg) r_c53 c4) (cwV 1 hB (zgV zw_209 zw_210 zw_211 zw_2 zw_212) rfl rfl rfl (by decide +kernel) ⟨by rw [hR]; exact Nat.le_of_ble_eq_true rfl, by rw [hR]; exact Nat.le_of_ble_eq_true rfl⟩) hK (hP.sub (ws' := [(qu, .inr (0, [.long sq, .long li, .long co, .long di, .ref qr])), (qr, .inl (cI, 97, .inl a2_28))]) [1, 2] rfl) (hD.sub (ws' := [(qu, .inr (0, [.long sq, .long li, .long co, .long di, .ref qr])), (qr, .inl (cI, 97, .inl a2_28))]) [1, 2] (by decide) rfl) rfl rfl rfl rfl hl.1 rfl (Nat.le_of_ble_eq_true rfl) d_td_bound_53 ⟨Nat.zero_le _, Nat.zero_le _⟩ ?_
      refine lv_if_eq (pc := 56) (tgt := 73) hx hb d_td_bound_56 rfl (fun h5 => ?_) (fun h5 => ?_)
      · rw [if_pos h5] at hm
        refine lv_iinc (pc := 73) (k := 6) (v := x5_28 + (1 : Int32)) (lv' := [(5, .int (x5_28 + (1 : Int32))), (6, .int (zpr x5_28.toNatClampNeg)), (0, .ref qt), (1, .int i1), (2, .int x2_28), (3, .ref qp), (4, .int (24 : Int32))]) hx hb d_td_bound_73 hl rfl (congrArg (x5_28 + ·) (by decide)) (Nat.le_of_ble_eq_true rfl) rfl (fun ls hl => ?_)
        refine lv_goto (pc := 76) (tgt := 28) hx hb d_td_bound_76 rfl ?_
        exact ih (x5_28 + (1 : Int32)) a2_28 x2_28 H locs ls (lv_sub hl [2, 3, 4, 5, 6, 0] rfl) hP hD hS hm
      rw [if_neg h5] at hm
      refine lv_iload_n (pc := 59) hx hb d_td_bound_59 rfl (lv_at hl 3 rfl) ?_
      refine lv_aload_n (pc := 60) hx hb d_td_bound_60 rfl (lv_at hl 1 rfl) ?_
      refine va_get (pc := 61) (D := D) (ci := 3) (v := .ref qu) (C := "TorsionDesk") (T := tX3) (N := 6) hx hb hB lX3 hown hK hP 0 rfl rfl 0 (by decide) (hB _ zw_89) (fun _ h9 => h9) rfl d_td_bound_61 ?_
      refine lv_iload (pc := 64) hx hb d_td_bound_64 (lv_at hl 0 rfl) ?_
      obtain ⟨⟨r_c66, o1_c66⟩, c6, hm⟩ := zbind hm
      try dsimp only at hm
      refine zwV (pc := 66) (As := [.int (zpr x5_28.toNatClampNeg)]) (rest := [.int x2_28]) ⟨hx, hb, hml, hown, hB⟩ (w_a_cu_countFor l D cI cJ qu qr sq li co di a2_28 (zpr x5_28.toNatClampNeg) n r_c66 o1_c66 c6) (cwV 1 hB (zgV zw_213 zw_214 zw_215 zw_2 zw_216) rfl rfl rfl (by decide +kernel) ⟨by rw [hR]; exact Nat.le_of_ble_eq_true rfl, by rw [hR]; exact Nat.le_of_ble_eq_true rfl⟩) hK hP hD hS [1, 2] (by decide) rfl rfl rfl rfl rfl rfl hl.1 rfl (Nat.le_of_ble_eq_true rfl) d_td_bound_66 ⟨Nat.zero_le _, Nat.zero_le _⟩ (fun H locs hP hD hS => ?_)
      have hP : va_P D vwCl [(qt, .inr (3, [.ref qu, .ref qd, .ref qf, .int hc, .int ta, .int tc])), (qu, .inr (0, [.long sq, .long li, .long co, .long di, .ref qr])), (qr, .inl (cI, 97, .inl o1_c66)), (qd, .inr (2, [.ref qw, .int dn, .long dq])), (qw, .inl (cI, 64, .inl dr)), (qf, .inr (1, [.ref qx, .ref qy, .ref qo, .int fn])), (qx, .inl (cI, 32, .inl xs)), (qy, .inl (cI, 32, .inl ys)), (qo, .inl (cI, 32, .inl os))] H := hP
      have hD : va_D A [(qt, .inr (3, [.ref qu, .ref qd, .ref qf, .int hc, .int ta, .int tc])), (qu, .inr (0, [.long sq, .long li, .long co, .long di, .ref qr])), (qr, .inl (cI, 97, .inl o1_c66)), (qd, .inr (2, [.ref qw, .int dn, .long dq])), (qw, .inl (cI, 64, .inl dr)), (qf, .inr (1, [.ref qx, .ref qy, .ref qo, .int fn])), (qx, .inl (cI, 32, .inl xs)), (qy, .inl (cI, 32, .inl ys)), (qo, .inl (cI, 32, .inl os))] := hD
      obtain ⟨r_c69, c7, hm⟩ := zbind hm
      try dsimp only at hm
      refine zcS (pc := 69) (As := [.int x2_28, .int r_c66]) (rest := []) ⟨hx, hb, hml, hown, hB⟩ (w_a_td_greatestDivisor l D cI cJ x2_28 r_c66 n r_c69 c7) (va_cwS 2 hB (zgS zw_227 zw_228 zw_1 zw_229) rfl rfl rfl (by decide +kernel) ⟨by rw [hR]; exact Nat.le_of_ble_eq_true rfl, by rw [hR]; exact Nat.le_of_ble_eq_true rfl⟩) hK (hP.sub (ws' := []) [] rfl) (hD.sub (ws' := []) [] (by decide) rfl) rfl hl.1 rfl (Nat.le_of_ble_eq_true rfl) d_td_bound_69 ⟨Nat.zero_le _, Nat.zero_le _⟩ ?_
      refine lv_istore_n (pc := 72) (lv' := [(2, .int r_c69), (6, .int (zpr x5_28.toNatClampNeg)), (0, .ref qt), (1, .int i1), (3, .ref qp), (4, .int (24 : Int32)), (5, .int x5_28)]) hx hb d_td_bound_72 rfl hl (Nat.le_of_ble_eq_true rfl) rfl (fun ls hl => ?_)
      refine lv_iinc (pc := 73) (k := 6) (v := x5_28 + (1 : Int32)) (lv' := [(5, .int (x5_28 + (1 : Int32))), (2, .int r_c69), (6, .int (zpr x5_28.toNatClampNeg)), (0, .ref qt), (1, .int i1), (3, .ref qp), (4, .int (24 : Int32))]) hx hb d_td_bound_73 hl rfl (congrArg (x5_28 + ·) (by decide)) (Nat.le_of_ble_eq_true rfl) rfl (fun ls hl => ?_)
      refine lv_goto (pc := 76) (tgt := 28) hx hb d_td_bound_76 rfl ?_
      exact ih (x5_28 + (1 : Int32)) o1_c66 r_c69 H locs ls (lv_sub hl [3, 4, 1, 5, 6, 0] rfl) hP hD hS hm
  have main : ∀ (H : Heap) (locs : List Loc), va_P D vwCl [(qt, .inr (3, [.ref qu, .ref qd, .ref qf, .int hc, .int ta, .int tc])), (qu, .inr (0, [.long sq, .long li, .long co, .long di, .ref qr])), (qr, .inl (cI, 97, .inl rc)), (qd, .inr (2, [.ref qw, .int dn, .long dq])), (qw, .inl (cI, 64, .inl dr)), (qf, .inr (1, [.ref qx, .ref qy, .ref qo, .int fn])), (qx, .inl (cI, 32, .inl xs)), (qy, .inl (cI, 32, .inl ys)), (qo, .inl (cI, 32, .inl os))] H → va_D A [(qt, .inr (3, [.ref qu, .ref qd, .ref qf, .int hc, .int ta, .int tc])), (qu, .inr (0, [.long sq, .long li, .long co, .long di, .ref qr])), (qr, .inl (cI, 97, .inl rc)), (qd, .inr (2, [.ref qw, .int dn, .long dq])), (qw, .inl (cI, 64, .inl dr)), (qf, .inr (1, [.ref qx, .ref qy, .ref qo, .int fn])), (qx, .inl (cI, 32, .inl xs)), (qy, .inl (cI, 32, .inl ys)), (qo, .inl (cI, 32, .inl os))] → va_S A s.heap H locs → W p l e R s m args below meth c H locs 0 0 Q (F0 m 0 ls []) := by
    intro H locs hP hD hS
    rw [a_td_bound] at hm
    refine lv_aload_n (pc := 0) hx hb d_td_bound_0 rfl (lv_at hl 0 rfl) ?_
    refine va_get (pc := 1) (D := D) (ci := 3) (v := .int hc) (C := "TorsionDesk") (T := tX3) (N := 6) hx hb hB lX3 hown hK hP 0 rfl rfl 3 (by decide) (hB _ zw_92) (fun _ h9 => h9) rfl d_td_bound_1 ?_
    refine lv_if_eq (pc := 4) (tgt := 13) hx hb d_td_bound_4 rfl (fun h1 => ?_) (fun h1 => ?_)
    · rw [if_pos h1] at hm
      refine lv_iconst (pc := 13) (v := (0 : Int32)) hx hb d_td_bound_13 (by decide) ?_
      cases hm
      rw [hQ]
      exact W.iret (pc := 14) hx hb hr (fun t ht _ => ⟨rfl, by rw [ht]; exact hP, hS.F ht⟩) hS.2.2 d_td_bound_14
    rw [if_neg h1] at hm
    refine lv_iload_n (pc := 7) hx hb d_td_bound_7 rfl (lv_at hl 1 rfl) ?_
    refine lv_bipush (pc := 8) (v := (97 : Int32)) hx hb d_td_bound_8 (by decide) ?_
    refine lv_icmp_le (pc := 10) (tgt := 15) hx hb d_td_bound_10 rfl (fun h2 => ?_) (fun h2 => ?_)
    · rw [if_pos h2] at hm
      refine lv_iconst (pc := 15) (v := (0 : Int32)) hx hb d_td_bound_15 (by decide) ?_
      refine lv_istore_n (pc := 16) (lv' := [(2, .int (0 : Int32)), (0, .ref qt), (1, .int i1)]) hx hb d_td_bound_16 rfl hl (Nat.le_of_ble_eq_true rfl) rfl (fun ls hl => ?_)
      refine va_gets (pc := 17) hx hb hZ hS hown (hB _ zw_207) (fun _ h9 => h9) d_td_bound_17 ?_
      refine lv_astore_n (pc := 20) (lv' := [(3, .ref qp), (2, .int (0 : Int32)), (0, .ref qt), (1, .int i1)]) hx hb d_td_bound_20 rfl hl (Nat.le_of_ble_eq_true rfl) rfl (fun ls hl => ?_)
      refine lv_aload_n (pc := 21) hx hb d_td_bound_21 rfl (lv_at hl 0 rfl) ?_
      refine va_tlen (pc := 22) hx hb hT hS (v := (24 : Int32)) rfl d_td_bound_22 ?_
      refine lv_istore (pc := 23) (lv' := [(4, .int (24 : Int32)), (3, .ref qp), (2, .int (0 : Int32)), (0, .ref qt), (1, .int i1)]) hx hb d_td_bound_23 hl (Nat.le_of_ble_eq_true rfl) rfl (fun ls hl => ?_)
      refine lv_iconst (pc := 25) (v := (0 : Int32)) hx hb d_td_bound_25 (by decide) ?_
      refine lv_istore (pc := 26) (lv' := [(5, .int (0 : Int32)), (4, .int (24 : Int32)), (3, .ref qp), (2, .int (0 : Int32)), (0, .ref qt), (1, .int i1)]) hx hb d_td_bound_26 hl (Nat.le_of_ble_eq_true rfl) rfl (fun ls hl => ?_)
      exact k28 N (0 : Int32) rc (0 : Int32) H locs ls (lv_sub hl [4, 5, 3, 2, 1, 0] rfl) hP hD hS hm
    rw [if_neg h2] at hm
    refine lv_iconst (pc := 13) (v := (0 : Int32)) hx hb d_td_bound_13 (by decide) ?_
    cases hm
    rw [hQ]
    exact W.iret (pc := 14) hx hb hr (fun t ht _ => ⟨rfl, by rw [ht]; exact hP, hS.F ht⟩) hS.2.2 d_td_bound_14
  exact main s.heap [] hP hD hS
