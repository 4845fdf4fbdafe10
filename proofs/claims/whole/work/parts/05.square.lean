abbrev rm_sd_floorOfRoot : Room := { frames := 0, cells := 0, slots := 0, locals := 0 }
def a_sd_floorOfRoot_L7 (j1 : Int64) : Nat → Int64 → Int64 → Option (Int64)
  | 0, _, _ => none
  | n + 1, x4_7, x2_7 => (if x4_7 ≤ (0 : Int64) then (some x2_7) else (if j1 < ((x2_7 + x4_7) * (x2_7 + x4_7)) then a_sd_floorOfRoot_L7 j1 n (x4_7 >>> ((1 : Int32).toInt64 &&& 63)) x2_7 else a_sd_floorOfRoot_L7 j1 n (x4_7 >>> ((1 : Int32).toInt64 &&& 63)) (x2_7 + x4_7)))
def a_sd_floorOfRoot (N : Nat) (j1 : Int64) : Option (Int64) := a_sd_floorOfRoot_L7 j1 N (32768 : Int64) (0 : Int64)
set_option maxHeartbeats 4000000 in
set_option maxRecDepth 100000 in
theorem w_a_sd_floorOfRoot (l : Launch) (D : va_G) (cI cJ : ClassId) (j1 : Int64) (N : Nat) (r0 : Int64) (hm : a_sd_floorOfRoot N j1 = some r0) : Met l y_sd_floorOfRoot zs_sd_floorOfRoot rm_sd_floorOfRoot (zPc [.long j1] D [] [(cI, .int), (cJ, .long)]) (zRd (some (.long r0))) 0 0 (fun _ => False) := by
  refine zm (by decide) (Nat.le_of_ble_eq_true rfl) ?_
  intro p e s m args below meth c R Q hR hQ hargs hx hb hml hr hlocks hnm hB hown hP hK hD0 ls hl
  have hown : s.vm.findClass "TorsionDesk$SquareDivisors" = some m.cls := hown
  have hl : lv_has ls 6 [(0, .long j1)] := hl
  have k7 : ∀ (n : Nat) (x4_7 : Int64) (x2_7 : Int64) (ls : Array Slot), lv_has ls 6 [(0, .long j1), (2, .long x2_7), (4, .long x4_7)] → a_sd_floorOfRoot_L7 j1 n x4_7 x2_7 = some r0 → W p l e R s m args below meth c s.heap [] 0 0 Q (F0 m 7 ls []) := by
    intro n
    induction n with
    | zero => intro x4_7 x2_7  ls hl hm; rw [a_sd_floorOfRoot_L7] at hm; cases hm
    | succ n ih =>
      intro x4_7 x2_7  ls hl hm
      rw [a_sd_floorOfRoot_L7] at hm
      refine lv_lload (pc := 7) hx hb d_sd_floorOfRoot_7 (lv_at hl 2 rfl) ?_
      refine lv_lconst (pc := 9) (v := (0 : Int64)) hx hb d_sd_floorOfRoot_9 (by decide) ?_
      refine zl_le (pc := 10) (tgt := 42) hx hb d_sd_floorOfRoot_10 d_sd_floorOfRoot_11 rfl (fun h1 => ?_) (fun h1 => ?_)
      · rw [if_pos h1] at hm
        refine lv_lload_n (pc := 42) hx hb d_sd_floorOfRoot_42 rfl (lv_at hl 1 rfl) ?_
        cases hm
        rw [hQ]
        exact W.lret (pc := 43) hx hb hr (fun t ht _ => ⟨rfl, ht⟩) (fun _ h9 => nomatch h9) d_sd_floorOfRoot_43
      rw [if_neg h1] at hm
      refine lv_lload_n (pc := 14) hx hb d_sd_floorOfRoot_14 rfl (lv_at hl 1 rfl) ?_
      refine lv_lload (pc := 15) hx hb d_sd_floorOfRoot_15 (lv_at hl 2 rfl) ?_
      refine lv_ladd (pc := 17) hx hb d_sd_floorOfRoot_17 ?_
      refine lv_lload_n (pc := 18) hx hb d_sd_floorOfRoot_18 rfl (lv_at hl 1 rfl) ?_
      refine lv_lload (pc := 19) hx hb d_sd_floorOfRoot_19 (lv_at hl 2 rfl) ?_
      refine lv_ladd (pc := 21) hx hb d_sd_floorOfRoot_21 ?_
      refine lv_lmul (pc := 22) hx hb d_sd_floorOfRoot_22 ?_
      refine lv_lload_n (pc := 23) hx hb d_sd_floorOfRoot_23 rfl (lv_at hl 0 rfl) ?_
      refine zl_gt (pc := 24) (tgt := 33) hx hb d_sd_floorOfRoot_24 d_sd_floorOfRoot_25 rfl (fun h2 => ?_) (fun h2 => ?_)
      · rw [if_pos h2] at hm
        refine lv_lload (pc := 33) hx hb d_sd_floorOfRoot_33 (lv_at hl 2 rfl) ?_
        refine lv_iconst (pc := 35) (v := (1 : Int32)) hx hb d_sd_floorOfRoot_35 (by decide) ?_
        refine lv_lshr (pc := 36) hx hb d_sd_floorOfRoot_36 rfl ?_
        refine lv_lstore (pc := 37) (lv' := [(4, .long (x4_7 >>> ((1 : Int32).toInt64 &&& 63))), (0, .long j1), (2, .long x2_7)]) hx hb d_sd_floorOfRoot_37 hl (Nat.le_of_ble_eq_true rfl) rfl (fun ls hl => ?_)
        refine lv_goto (pc := 39) (tgt := 7) hx hb d_sd_floorOfRoot_39 rfl ?_
        exact ih (x4_7 >>> ((1 : Int32).toInt64 &&& 63)) x2_7 ls (lv_sub hl [1, 2, 0] rfl) hm
      rw [if_neg h2] at hm
      refine lv_lload_n (pc := 28) hx hb d_sd_floorOfRoot_28 rfl (lv_at hl 1 rfl) ?_
      refine lv_lload (pc := 29) hx hb d_sd_floorOfRoot_29 (lv_at hl 2 rfl) ?_
      refine lv_ladd (pc := 31) hx hb d_sd_floorOfRoot_31 ?_
      refine lv_lstore_n (pc := 32) (lv' := [(2, .long (x2_7 + x4_7)), (0, .long j1), (4, .long x4_7)]) hx hb d_sd_floorOfRoot_32 rfl hl (Nat.le_of_ble_eq_true rfl) rfl (fun ls hl => ?_)
      refine lv_lload (pc := 33) hx hb d_sd_floorOfRoot_33 (lv_at hl 2 rfl) ?_
      refine lv_iconst (pc := 35) (v := (1 : Int32)) hx hb d_sd_floorOfRoot_35 (by decide) ?_
      refine lv_lshr (pc := 36) hx hb d_sd_floorOfRoot_36 rfl ?_
      refine lv_lstore (pc := 37) (lv' := [(4, .long (x4_7 >>> ((1 : Int32).toInt64 &&& 63))), (2, .long (x2_7 + x4_7)), (0, .long j1)]) hx hb d_sd_floorOfRoot_37 hl (Nat.le_of_ble_eq_true rfl) rfl (fun ls hl => ?_)
      refine lv_goto (pc := 39) (tgt := 7) hx hb d_sd_floorOfRoot_39 rfl ?_
      exact ih (x4_7 >>> ((1 : Int32).toInt64 &&& 63)) (x2_7 + x4_7) ls (lv_sub hl [2, 1, 0] rfl) hm
  rw [a_sd_floorOfRoot] at hm
  refine lv_lconst (pc := 0) (v := (0 : Int64)) hx hb d_sd_floorOfRoot_0 (by decide) ?_
  refine lv_lstore_n (pc := 1) (lv' := [(2, .long (0 : Int64)), (0, .long j1)]) hx hb d_sd_floorOfRoot_1 rfl hl (Nat.le_of_ble_eq_true rfl) rfl (fun ls hl => ?_)
  refine lv_ldc2 (pc := 2) (v := (32768 : Int64)) hx hb hown (hB _ zw_352) d_sd_floorOfRoot_2 ?_
  refine lv_lstore (pc := 5) (lv' := [(4, .long (32768 : Int64)), (2, .long (0 : Int64)), (0, .long j1)]) hx hb d_sd_floorOfRoot_5 hl (Nat.le_of_ble_eq_true rfl) rfl (fun ls hl => ?_)
  exact k7 N (32768 : Int64) (0 : Int64) ls (lv_sub hl [2, 1, 0] rfl) hm
abbrev rm_sd_largestRoot : Room := { frames := 1, cells := 0, slots := 0, locals := 25 }
def a_sd_largestRoot_L35 : Nat → Int64 → Int64 → Int32 → Int64 → Option (Int64 × Int64 × Int64)
  | 0, _, _, _, _ => none
  | n + 1, x2_35, x4_35, x8_35, x6_35 => (if (64 : Int32) ≤ x8_35 then (some (x2_35, x4_35, x6_35)) else (if (x6_35 * x6_35) = 0 then none else (if (x2_35 - x2_35 / (x6_35 * x6_35) * (x6_35 * x6_35)) = (0 : Int64) then a_sd_largestRoot_L35  n (x2_35 / (x6_35 * x6_35)) (x4_35 * x6_35) (x8_35 + (1 : Int32)) x6_35 else (some (x2_35, x4_35, x6_35)))))
def a_sd_largestRoot_L10 : Nat → Int64 → Int64 → Int64 → Option (Int32)
  | 0, _, _, _ => none
  | n + 1, x6_10, x2_10, x4_10 => (if (1000 : Int64) ≤ x6_10 then ((a_sd_floorOfRoot n x2_10).bind (fun r_c99 => (if (r_c99 * r_c99) = x2_10 then (some ((x4_10 * r_c99).toInt32)) else (some x4_10.toInt32)))) else (if x2_10 < ((x6_10 * x6_10) * x6_10) then ((a_sd_floorOfRoot n x2_10).bind (fun r_c99 => (if (r_c99 * r_c99) = x2_10 then (some ((x4_10 * r_c99).toInt32)) else (some x4_10.toInt32)))) else ((a_sd_largestRoot_L35  n x2_10 x4_10 (0 : Int32) x6_10).bind (fun (x2_75e, x4_75e, x6_75e) => (if x6_75e = 0 then none else (if (x2_75e - x2_75e / x6_75e * x6_75e) = (0 : Int64) then a_sd_largestRoot_L10  n (x6_75e + (1 : Int64)) (x2_75e / x6_75e) x4_75e else a_sd_largestRoot_L10  n (x6_75e + (1 : Int64)) x2_75e x4_75e))))))
def a_sd_largestRoot (N : Nat) (j1 : Int64) : Option (Int32) := a_sd_largestRoot_L10  N (2 : Int64) j1 (1 : Int64)
set_option maxHeartbeats 4000000 in
set_option maxRecDepth 100000 in
theorem w_a_sd_largestRoot (l : Launch) (D : va_G) (cI cJ : ClassId) (j1 : Int64) (N : Nat) (r0 : Int32) (hm : a_sd_largestRoot N j1 = some r0) : Met l y_sd_largestRoot zs_sd_largestRoot rm_sd_largestRoot (zPc [.long j1] D [] [(cI, .int), (cJ, .long)]) (zRd (some (.int r0))) 0 0 (fun _ => False) := by
  refine zm (by decide) (Nat.le_of_ble_eq_true rfl) ?_
  intro p e s m args below meth c R Q hR hQ hargs hx hb hml hr hlocks hnm hB hown hP hK hD0 ls hl
  have hown : s.vm.findClass "TorsionDesk$SquareDivisors" = some m.cls := hown
  have hl : lv_has ls 9 [(0, .long j1)] := hl
  have k35 : ∀ (n : Nat) (x2_35 : Int64) (x4_35 : Int64) (x8_35 : Int32) (x6_35 : Int64) (x2_75e : Int64) (x4_75e : Int64) (x6_75e : Int64) (ls : Array Slot), lv_has ls 9 [(2, .long x2_35), (4, .long x4_35), (6, .long x6_35), (8, .int x8_35)] → a_sd_largestRoot_L35  n x2_35 x4_35 x8_35 x6_35 = some (x2_75e, x4_75e, x6_75e) → (∀ (ls : Array Slot), lv_has ls 9 [(2, .long x2_75e), (4, .long x4_75e), (6, .long x6_75e)] → W p l e R s m args below meth c s.heap [] 0 0 Q (F0 m 75 ls [])) → W p l e R s m args below meth c s.heap [] 0 0 Q (F0 m 35 ls []) := by
    intro n
    induction n with
    | zero => intro x2_35 x4_35 x8_35 x6_35 x2_75e x4_75e x6_75e ls hl hm kk; rw [a_sd_largestRoot_L35] at hm; cases hm
    | succ n ih =>
      intro x2_35 x4_35 x8_35 x6_35 x2_75e x4_75e x6_75e ls hl hm kk
      rw [a_sd_largestRoot_L35] at hm
      refine lv_iload (pc := 35) hx hb d_sd_largestRoot_35 (lv_at hl 3 rfl) ?_
      refine lv_bipush (pc := 37) (v := (64 : Int32)) hx hb d_sd_largestRoot_37 (by decide) ?_
      refine lv_icmp_ge (pc := 39) (tgt := 75) hx hb d_sd_largestRoot_39 rfl (fun h1 => ?_) (fun h1 => ?_)
      · rw [if_pos h1] at hm
        cases hm
        exact kk ls (lv_sub hl [0, 1, 2] rfl) 
      rw [if_neg h1] at hm
      refine lv_lload_n (pc := 42) hx hb d_sd_largestRoot_42 rfl (lv_at hl 0 rfl) ?_
      refine lv_lload (pc := 43) hx hb d_sd_largestRoot_43 (lv_at hl 2 rfl) ?_
      refine lv_lload (pc := 45) hx hb d_sd_largestRoot_45 (lv_at hl 2 rfl) ?_
      refine lv_lmul (pc := 47) hx hb d_sd_largestRoot_47 ?_
      by_cases g2 : (x6_35 * x6_35) = 0
      · rw [if_pos g2] at hm; cases hm
      rw [if_neg g2] at hm
      refine lv_lrem (pc := 48) hx hb d_sd_largestRoot_48 g2 ?_
      refine lv_lconst (pc := 49) (v := (0 : Int64)) hx hb d_sd_largestRoot_49 (by decide) ?_
      refine zl_ne (pc := 50) (tgt := 75) hx hb d_sd_largestRoot_50 d_sd_largestRoot_51 rfl (fun h3 => ?_) (fun h3 => ?_)
      · rw [if_neg h3] at hm
        cases hm
        exact kk ls (lv_sub hl [0, 1, 2] rfl) 
      rw [if_pos h3] at hm
      refine lv_lload_n (pc := 54) hx hb d_sd_largestRoot_54 rfl (lv_at hl 0 rfl) ?_
      refine lv_lload (pc := 55) hx hb d_sd_largestRoot_55 (lv_at hl 2 rfl) ?_
      refine lv_lload (pc := 57) hx hb d_sd_largestRoot_57 (lv_at hl 2 rfl) ?_
      refine lv_lmul (pc := 59) hx hb d_sd_largestRoot_59 ?_
      refine lv_ldiv (pc := 60) hx hb d_sd_largestRoot_60 g2 ?_
      refine lv_lstore_n (pc := 61) (lv' := [(2, .long (x2_35 / (x6_35 * x6_35))), (4, .long x4_35), (6, .long x6_35), (8, .int x8_35)]) hx hb d_sd_largestRoot_61 rfl hl (Nat.le_of_ble_eq_true rfl) rfl (fun ls hl => ?_)
      refine lv_lload (pc := 62) hx hb d_sd_largestRoot_62 (lv_at hl 1 rfl) ?_
      refine lv_lload (pc := 64) hx hb d_sd_largestRoot_64 (lv_at hl 2 rfl) ?_
      refine lv_lmul (pc := 66) hx hb d_sd_largestRoot_66 ?_
      refine lv_lstore (pc := 67) (lv' := [(4, .long (x4_35 * x6_35)), (2, .long (x2_35 / (x6_35 * x6_35))), (6, .long x6_35), (8, .int x8_35)]) hx hb d_sd_largestRoot_67 hl (Nat.le_of_ble_eq_true rfl) rfl (fun ls hl => ?_)
      refine lv_iinc (pc := 69) (k := 3) (v := x8_35 + (1 : Int32)) (lv' := [(8, .int (x8_35 + (1 : Int32))), (4, .long (x4_35 * x6_35)), (2, .long (x2_35 / (x6_35 * x6_35))), (6, .long x6_35)]) hx hb d_sd_largestRoot_69 hl rfl (congrArg (x8_35 + ·) (by decide)) (Nat.le_of_ble_eq_true rfl) rfl (fun ls hl => ?_)
      refine lv_goto (pc := 72) (tgt := 35) hx hb d_sd_largestRoot_72 rfl ?_
      exact ih (x2_35 / (x6_35 * x6_35)) (x4_35 * x6_35) (x8_35 + (1 : Int32)) x6_35 x2_75e x4_75e x6_75e ls (lv_sub hl [2, 1, 3, 0] rfl) hm kk
  have k10 : ∀ (n : Nat) (x6_10 : Int64) (x2_10 : Int64) (x4_10 : Int64) (ls : Array Slot), lv_has ls 9 [(2, .long x2_10), (4, .long x4_10), (6, .long x6_10)] → a_sd_largestRoot_L10  n x6_10 x2_10 x4_10 = some r0 → W p l e R s m args below meth c s.heap [] 0 0 Q (F0 m 10 ls []) := by
    intro n
    induction n with
    | zero => intro x6_10 x2_10 x4_10  ls hl hm; rw [a_sd_largestRoot_L10] at hm; cases hm
    | succ n ih =>
      intro x6_10 x2_10 x4_10  ls hl hm
      rw [a_sd_largestRoot_L10] at hm
      refine lv_lload (pc := 10) hx hb d_sd_largestRoot_10 (lv_at hl 2 rfl) ?_
      refine lv_ldc2 (pc := 12) (v := (1000 : Int64)) hx hb hown (hB _ zw_348) d_sd_largestRoot_12 ?_
      refine zl_ge (pc := 15) (tgt := 98) hx hb d_sd_largestRoot_15 d_sd_largestRoot_16 rfl (fun h4 => ?_) (fun h4 => ?_)
      · rw [if_pos h4] at hm
        refine lv_lload_n (pc := 98) hx hb d_sd_largestRoot_98 rfl (lv_at hl 0 rfl) ?_
        obtain ⟨r_c99, c5, hm⟩ := zbind hm
        try dsimp only at hm
        refine zcS (pc := 99) (As := [.long x2_10]) (rest := []) ⟨hx, hb, hml, hown, hB⟩ (w_a_sd_floorOfRoot l D cI cJ x2_10 n r_c99 c5) (va_cwS 1 hB (zgS zw_349 zw_350 zw_3 zw_351) rfl rfl rfl (by decide +kernel) ⟨by rw [hR]; exact Nat.le_of_ble_eq_true rfl, by rw [hR]; exact Nat.le_of_ble_eq_true rfl⟩) hK (hP.sub (ws' := []) [] rfl) (hD0.sub (ws' := []) [] (by decide) rfl) rfl hl.1 rfl (Nat.le_of_ble_eq_true rfl) d_sd_largestRoot_99 ⟨Nat.zero_le _, Nat.zero_le _⟩ ?_
        refine lv_lstore (pc := 102) (lv' := [(6, .long r_c99), (2, .long x2_10), (4, .long x4_10)]) hx hb d_sd_largestRoot_102 hl (Nat.le_of_ble_eq_true rfl) rfl (fun ls hl => ?_)
        refine lv_lload (pc := 104) hx hb d_sd_largestRoot_104 (lv_at hl 0 rfl) ?_
        refine lv_lload (pc := 106) hx hb d_sd_largestRoot_106 (lv_at hl 0 rfl) ?_
        refine lv_lmul (pc := 108) hx hb d_sd_largestRoot_108 ?_
        refine lv_lload_n (pc := 109) hx hb d_sd_largestRoot_109 rfl (lv_at hl 1 rfl) ?_
        refine zl_ne (pc := 110) (tgt := 122) hx hb d_sd_largestRoot_110 d_sd_largestRoot_111 rfl (fun h6 => ?_) (fun h6 => ?_)
        · rw [if_neg h6] at hm
          refine lv_lload (pc := 122) hx hb d_sd_largestRoot_122 (lv_at hl 2 rfl) ?_
          refine lv_l2i (pc := 124) hx hb d_sd_largestRoot_124 rfl ?_
          cases hm
          rw [hQ]
          exact W.iret (pc := 125) hx hb hr (fun t ht _ => ⟨rfl, ht⟩) (fun _ h9 => nomatch h9) d_sd_largestRoot_125
        rw [if_pos h6] at hm
        refine lv_lload (pc := 114) hx hb d_sd_largestRoot_114 (lv_at hl 2 rfl) ?_
        refine lv_lload (pc := 116) hx hb d_sd_largestRoot_116 (lv_at hl 0 rfl) ?_
        refine lv_lmul (pc := 118) hx hb d_sd_largestRoot_118 ?_
        refine lv_goto (pc := 119) (tgt := 124) hx hb d_sd_largestRoot_119 rfl ?_
        refine lv_l2i (pc := 124) hx hb d_sd_largestRoot_124 rfl ?_
        cases hm
        rw [hQ]
        exact W.iret (pc := 125) hx hb hr (fun t ht _ => ⟨rfl, ht⟩) (fun _ h9 => nomatch h9) d_sd_largestRoot_125
      rw [if_neg h4] at hm
      refine lv_lload (pc := 19) hx hb d_sd_largestRoot_19 (lv_at hl 2 rfl) ?_
      refine lv_lload (pc := 21) hx hb d_sd_largestRoot_21 (lv_at hl 2 rfl) ?_
      refine lv_lmul (pc := 23) hx hb d_sd_largestRoot_23 ?_
      refine lv_lload (pc := 24) hx hb d_sd_largestRoot_24 (lv_at hl 2 rfl) ?_
      refine lv_lmul (pc := 26) hx hb d_sd_largestRoot_26 ?_
      refine lv_lload_n (pc := 27) hx hb d_sd_largestRoot_27 rfl (lv_at hl 0 rfl) ?_
      refine zl_gt (pc := 28) (tgt := 98) hx hb d_sd_largestRoot_28 d_sd_largestRoot_29 rfl (fun h7 => ?_) (fun h7 => ?_)
      · rw [if_pos h7] at hm
        refine lv_lload_n (pc := 98) hx hb d_sd_largestRoot_98 rfl (lv_at hl 0 rfl) ?_
        obtain ⟨r_c99, c8, hm⟩ := zbind hm
        try dsimp only at hm
        refine zcS (pc := 99) (As := [.long x2_10]) (rest := []) ⟨hx, hb, hml, hown, hB⟩ (w_a_sd_floorOfRoot l D cI cJ x2_10 n r_c99 c8) (va_cwS 1 hB (zgS zw_349 zw_350 zw_3 zw_351) rfl rfl rfl (by decide +kernel) ⟨by rw [hR]; exact Nat.le_of_ble_eq_true rfl, by rw [hR]; exact Nat.le_of_ble_eq_true rfl⟩) hK (hP.sub (ws' := []) [] rfl) (hD0.sub (ws' := []) [] (by decide) rfl) rfl hl.1 rfl (Nat.le_of_ble_eq_true rfl) d_sd_largestRoot_99 ⟨Nat.zero_le _, Nat.zero_le _⟩ ?_
        refine lv_lstore (pc := 102) (lv' := [(6, .long r_c99), (2, .long x2_10), (4, .long x4_10)]) hx hb d_sd_largestRoot_102 hl (Nat.le_of_ble_eq_true rfl) rfl (fun ls hl => ?_)
        refine lv_lload (pc := 104) hx hb d_sd_largestRoot_104 (lv_at hl 0 rfl) ?_
        refine lv_lload (pc := 106) hx hb d_sd_largestRoot_106 (lv_at hl 0 rfl) ?_
        refine lv_lmul (pc := 108) hx hb d_sd_largestRoot_108 ?_
        refine lv_lload_n (pc := 109) hx hb d_sd_largestRoot_109 rfl (lv_at hl 1 rfl) ?_
        refine zl_ne (pc := 110) (tgt := 122) hx hb d_sd_largestRoot_110 d_sd_largestRoot_111 rfl (fun h9 => ?_) (fun h9 => ?_)
        · rw [if_neg h9] at hm
          refine lv_lload (pc := 122) hx hb d_sd_largestRoot_122 (lv_at hl 2 rfl) ?_
          refine lv_l2i (pc := 124) hx hb d_sd_largestRoot_124 rfl ?_
          cases hm
          rw [hQ]
          exact W.iret (pc := 125) hx hb hr (fun t ht _ => ⟨rfl, ht⟩) (fun _ h9 => nomatch h9) d_sd_largestRoot_125
        rw [if_pos h9] at hm
        refine lv_lload (pc := 114) hx hb d_sd_largestRoot_114 (lv_at hl 2 rfl) ?_
        refine lv_lload (pc := 116) hx hb d_sd_largestRoot_116 (lv_at hl 0 rfl) ?_
        refine lv_lmul (pc := 118) hx hb d_sd_largestRoot_118 ?_
        refine lv_goto (pc := 119) (tgt := 124) hx hb d_sd_largestRoot_119 rfl ?_
        refine lv_l2i (pc := 124) hx hb d_sd_largestRoot_124 rfl ?_
        cases hm
        rw [hQ]
        exact W.iret (pc := 125) hx hb hr (fun t ht _ => ⟨rfl, ht⟩) (fun _ h9 => nomatch h9) d_sd_largestRoot_125
      rw [if_neg h7] at hm
      refine lv_iconst (pc := 32) (v := (0 : Int32)) hx hb d_sd_largestRoot_32 (by decide) ?_
      refine lv_istore (pc := 33) (lv' := [(8, .int (0 : Int32)), (2, .long x2_10), (4, .long x4_10), (6, .long x6_10)]) hx hb d_sd_largestRoot_33 hl (Nat.le_of_ble_eq_true rfl) rfl (fun ls hl => ?_)
      obtain ⟨⟨x2_75e, x4_75e, x6_75e⟩, i12, hm⟩ := zbind hm
      try dsimp only at hm
      refine k35 n x2_10 x4_10 (0 : Int32) x6_10 x2_75e x4_75e x6_75e ls (lv_sub hl [1, 2, 3, 0] rfl) i12 (fun ls hl => ?_)
      refine lv_lload_n (pc := 75) hx hb d_sd_largestRoot_75 rfl (lv_at hl 0 rfl) ?_
      refine lv_lload (pc := 76) hx hb d_sd_largestRoot_76 (lv_at hl 2 rfl) ?_
      by_cases g10 : x6_75e = 0
      · rw [if_pos g10] at hm; cases hm
      rw [if_neg g10] at hm
      refine lv_lrem (pc := 78) hx hb d_sd_largestRoot_78 g10 ?_
      refine lv_lconst (pc := 79) (v := (0 : Int64)) hx hb d_sd_largestRoot_79 (by decide) ?_
      refine zl_ne (pc := 80) (tgt := 89) hx hb d_sd_largestRoot_80 d_sd_largestRoot_81 rfl (fun h11 => ?_) (fun h11 => ?_)
      · rw [if_neg h11] at hm
        refine lv_lload (pc := 89) hx hb d_sd_largestRoot_89 (lv_at hl 2 rfl) ?_
        refine lv_lconst (pc := 91) (v := (1 : Int64)) hx hb d_sd_largestRoot_91 (by decide) ?_
        refine lv_ladd (pc := 92) hx hb d_sd_largestRoot_92 ?_
        refine lv_lstore (pc := 93) (lv' := [(6, .long (x6_75e + (1 : Int64))), (2, .long x2_75e), (4, .long x4_75e)]) hx hb d_sd_largestRoot_93 hl (Nat.le_of_ble_eq_true rfl) rfl (fun ls hl => ?_)
        refine lv_goto (pc := 95) (tgt := 10) hx hb d_sd_largestRoot_95 rfl ?_
        exact ih (x6_75e + (1 : Int64)) x2_75e x4_75e ls (lv_sub hl [1, 2, 0] rfl) hm
      rw [if_pos h11] at hm
      refine lv_lload_n (pc := 84) hx hb d_sd_largestRoot_84 rfl (lv_at hl 0 rfl) ?_
      refine lv_lload (pc := 85) hx hb d_sd_largestRoot_85 (lv_at hl 2 rfl) ?_
      refine lv_ldiv (pc := 87) hx hb d_sd_largestRoot_87 g10 ?_
      refine lv_lstore_n (pc := 88) (lv' := [(2, .long (x2_75e / x6_75e)), (4, .long x4_75e), (6, .long x6_75e)]) hx hb d_sd_largestRoot_88 rfl hl (Nat.le_of_ble_eq_true rfl) rfl (fun ls hl => ?_)
      refine lv_lload (pc := 89) hx hb d_sd_largestRoot_89 (lv_at hl 2 rfl) ?_
      refine lv_lconst (pc := 91) (v := (1 : Int64)) hx hb d_sd_largestRoot_91 (by decide) ?_
      refine lv_ladd (pc := 92) hx hb d_sd_largestRoot_92 ?_
      refine lv_lstore (pc := 93) (lv' := [(6, .long (x6_75e + (1 : Int64))), (2, .long (x2_75e / x6_75e)), (4, .long x4_75e)]) hx hb d_sd_largestRoot_93 hl (Nat.le_of_ble_eq_true rfl) rfl (fun ls hl => ?_)
      refine lv_goto (pc := 95) (tgt := 10) hx hb d_sd_largestRoot_95 rfl ?_
      exact ih (x6_75e + (1 : Int64)) (x2_75e / x6_75e) x4_75e ls (lv_sub hl [1, 2, 0] rfl) hm
  rw [a_sd_largestRoot] at hm
  refine lv_lload_n (pc := 0) hx hb d_sd_largestRoot_0 rfl (lv_at hl 0 rfl) ?_
  refine lv_lstore_n (pc := 1) (lv' := [(2, .long j1), (0, .long j1)]) hx hb d_sd_largestRoot_1 rfl hl (Nat.le_of_ble_eq_true rfl) rfl (fun ls hl => ?_)
  refine lv_lconst (pc := 2) (v := (1 : Int64)) hx hb d_sd_largestRoot_2 (by decide) ?_
  refine lv_lstore (pc := 3) (lv' := [(4, .long (1 : Int64)), (2, .long j1), (0, .long j1)]) hx hb d_sd_largestRoot_3 hl (Nat.le_of_ble_eq_true rfl) rfl (fun ls hl => ?_)
  refine lv_ldc2 (pc := 5) (v := (2 : Int64)) hx hb hown (hB _ zw_347) d_sd_largestRoot_5 ?_
  refine lv_lstore (pc := 8) (lv' := [(6, .long (2 : Int64)), (4, .long (1 : Int64)), (2, .long j1), (0, .long j1)]) hx hb d_sd_largestRoot_8 hl (Nat.le_of_ble_eq_true rfl) rfl (fun ls hl => ?_)
  exact k10 N (2 : Int64) j1 (1 : Int64) ls (lv_sub hl [2, 1, 0] rfl) hm
abbrev rm_sd_append : Room := { frames := 0, cells := 0, slots := 0, locals := 0 }
def a_sd_append (dn : Int32) (dr : Nat → Int32) (i1 : Int32) : Option ((Nat → Int32) × Int32) := (if (64 : Int32) ≤ dn then (some (dr, dn)) else (if (dn < 0 ∨ 64 ≤ dn.toNatClampNeg) then none else (some (upd dr dn.toNatClampNeg i1, dn + (1 : Int32)))))
set_option maxHeartbeats 4000000 in
set_option maxRecDepth 100000 in
theorem w_a_sd_append (l : Launch) (D : va_G) (cI cJ : ClassId) (qd : Nat) (qw : Nat) (dn : Int32) (dq : Int64) (dr : Nat → Int32) (i1 : Int32) (r0 : Nat → Int32) (r1 : Int32) (hm : a_sd_append dn dr i1 = some (r0, r1)) : Met l y_sd_append zs_sd_append rm_sd_append (zPc [.ref qd, .int i1] D [(qd, .inr (2, [.ref qw, .int dn, .long dq])), (qw, .inl (cI, 64, .inl dr))] [(cI, .int), (cJ, .long)]) (zWr none D (zIn [(qd, .inr (2, [.ref qw, .int dn, .long dq])), (qw, .inl (cI, 64, .inl dr))]) [(qd, .inr (2, [.ref qw, .int r1, .long dq])), (qw, .inl (cI, 64, .inl r0))]) 0 0 (zIn [(qd, .inr (2, [.ref qw, .int dn, .long dq])), (qw, .inl (cI, 64, .inl dr))]) := by
  refine zm (by decide) (Nat.le_of_ble_eq_true rfl) ?_
  intro p e s m args below meth c R Q hR hQ hargs hx hb hml hr hlocks hnm hB hown hP hK hD0 ls hl
  have hown : s.vm.findClass "TorsionDesk$SquareDivisors" = some m.cls := hown
  have hl : lv_has ls 2 [(0, .ref qd), (1, .int i1)] := hl
  obtain ⟨A, hA⟩ : ∃ A, A = zIn [(qd, .inr (2, [.ref qw, .int dn, .long dq])), (qw, .inl (cI, 64, .inl dr))] := ⟨_, rfl⟩
  have hD : va_D A [(qd, .inr (2, [.ref qw, .int dn, .long dq])), (qw, .inl (cI, 64, .inl dr))] := by rw [hA]; exact zIn_self hD0
  have hS : va_S A s.heap s.heap [] := va_S.rf
  rw [← hA] at hQ
  have main : ∀ (H : Heap) (locs : List Loc), va_P D vwCl [(qd, .inr (2, [.ref qw, .int dn, .long dq])), (qw, .inl (cI, 64, .inl dr))] H → va_D A [(qd, .inr (2, [.ref qw, .int dn, .long dq])), (qw, .inl (cI, 64, .inl dr))] → va_S A s.heap H locs → W p l e R s m args below meth c H locs 0 0 Q (F0 m 0 ls []) := by
    intro H locs hP hD hS
    rw [a_sd_append] at hm
    refine lv_aload_n (pc := 0) hx hb d_sd_append_0 rfl (lv_at hl 0 rfl) ?_
    refine va_get (pc := 1) (D := D) (ci := 2) (v := .int dn) (C := "TorsionDesk$SquareDivisors") (T := tX2) (N := 3) hx hb hB lX2 hown hK hP 0 rfl rfl 1 (by decide) (hB _ zw_55) (fun _ h9 => h9) rfl d_sd_append_1 ?_
    refine lv_bipush (pc := 4) (v := (64 : Int32)) hx hb d_sd_append_4 (by decide) ?_
    refine lv_icmp_ge (pc := 6) (tgt := 29) hx hb d_sd_append_6 rfl (fun h1 => ?_) (fun h1 => ?_)
    · rw [if_pos h1] at hm
      cases hm
      rw [hQ]
      exact W.vret (pc := 29) hx hb hr (fun t ht _ => ⟨rfl, by rw [ht]; exact hP, hS.F ht⟩) hS.2.2 d_sd_append_29
    rw [if_neg h1] at hm
    refine lv_aload_n (pc := 9) hx hb d_sd_append_9 rfl (lv_at hl 0 rfl) ?_
    refine va_get (pc := 10) (D := D) (ci := 2) (v := .ref qw) (C := "TorsionDesk$SquareDivisors") (T := tX2) (N := 3) hx hb hB lX2 hown hK hP 0 rfl rfl 0 (by decide) (hB _ zw_53) (fun _ h9 => h9) rfl d_sd_append_10 ?_
    refine lv_aload_n (pc := 13) hx hb d_sd_append_13 rfl (lv_at hl 0 rfl) ?_
    refine va_get (pc := 14) (D := D) (ci := 2) (v := .int dn) (C := "TorsionDesk$SquareDivisors") (T := tX2) (N := 3) hx hb hB lX2 hown hK hP 0 rfl rfl 1 (by decide) (hB _ zw_55) (fun _ h9 => h9) rfl d_sd_append_14 ?_
    refine lv_iload_n (pc := 17) hx hb d_sd_append_17 rfl (lv_at hl 1 rfl) ?_
    by_cases g2 : (dn < 0 ∨ 64 ≤ dn.toNatClampNeg)
    · rw [if_pos g2] at hm; cases hm
    rw [if_neg g2] at hm
    refine va_iast (pc := 18) hx hb hK hP hD hS 1 0 rfl rfl g2 d_sd_append_18 (fun H locs hP hD hS => ?_)
    have hP : va_P D vwCl [(qd, .inr (2, [.ref qw, .int dn, .long dq])), (qw, .inl (cI, 64, .inl (upd dr dn.toNatClampNeg i1)))] H := hP
    have hD : va_D A [(qd, .inr (2, [.ref qw, .int dn, .long dq])), (qw, .inl (cI, 64, .inl (upd dr dn.toNatClampNeg i1)))] := hD
    refine lv_aload_n (pc := 19) hx hb d_sd_append_19 rfl (lv_at hl 0 rfl) ?_
    refine lv_dup (pc := 20) hx hb d_sd_append_20 rfl ?_
    refine va_get (pc := 21) (D := D) (ci := 2) (v := .int dn) (C := "TorsionDesk$SquareDivisors") (T := tX2) (N := 3) hx hb hB lX2 hown hK hP 0 rfl rfl 1 (by decide) (hB _ zw_55) (fun _ h9 => h9) rfl d_sd_append_21 ?_
    refine lv_iconst (pc := 24) (v := (1 : Int32)) hx hb d_sd_append_24 (by decide) ?_
    refine lv_iadd (pc := 25) hx hb d_sd_append_25 ?_
    refine va_put (pc := 26) (D := D) (ci := 2) (v := .int (dn + (1 : Int32))) (ty := .int) (C := "TorsionDesk$SquareDivisors") (T := tX2) (N := 3) hx hb hB lX2 yX2 yX2_ok nX2 hown hK hP hD hS 0 rfl rfl 1 (by decide) (hB _ zw_55) (fun _ h9 => h9) rfl (by decide +kernel) rfl rfl (Nat.le_of_ble_eq_true rfl) d_sd_append_26 (fun H locs hP hD hS => ?_)
    have hP : va_P D vwCl [(qd, .inr (2, [.ref qw, .int (dn + (1 : Int32)), .long dq])), (qw, .inl (cI, 64, .inl (upd dr dn.toNatClampNeg i1)))] H := hP
    have hD : va_D A [(qd, .inr (2, [.ref qw, .int (dn + (1 : Int32)), .long dq])), (qw, .inl (cI, 64, .inl (upd dr dn.toNatClampNeg i1)))] := hD
    cases hm
    rw [hQ]
    exact W.vret (pc := 29) hx hb hr (fun t ht _ => ⟨rfl, by rw [ht]; exact hP, hS.F ht⟩) hS.2.2 d_sd_append_29
  exact main s.heap [] hP hD hS
abbrev rm_sd_listFor : Room := { frames := 2, cells := 0, slots := 0, locals := 53 }
def a_sd_listFor_L63 (r_c4 : Int32) : Nat → (Nat → Int32) → Int32 → Int32 → Option ((Nat → Int32) × Int32 × Int64)
  | 0, _, _, _ => none
  | n + 1, a1_63, f0_1_63, x5_63 => (if x5_63 < (1 : Int32) then (some (a1_63, f0_1_63, r_c4.toInt64 * r_c4.toInt64)) else (if x5_63 = 0 then none else (if (r_c4 - r_c4 / x5_63 * x5_63) = 0 then (if (r_c4 / x5_63) ≤ x5_63 then a_sd_listFor_L63 r_c4 n a1_63 f0_1_63 (x5_63 + (-1 : Int32)) else ((a_sd_append f0_1_63 a1_63 (r_c4 / x5_63)).bind (fun (o1_c90, o0_1_c90) => a_sd_listFor_L63 r_c4 n o1_c90 o0_1_c90 (x5_63 + (-1 : Int32))))) else a_sd_listFor_L63 r_c4 n a1_63 f0_1_63 (x5_63 + (-1 : Int32)))))
def a_sd_listFor_L33 (r_c24 : Int64) (r_c4 : Int32) : Nat → Int32 → (Nat → Int32) → Int32 → Option ((Nat → Int32) × Int32 × Int64)
  | 0, _, _, _ => none
  | n + 1, x5_33, a1_33, f0_1_33 => (if r_c24.toInt32 < x5_33 then a_sd_listFor_L63 r_c4 n a1_33 f0_1_33 r_c24.toInt32 else (if x5_33 = 0 then none else (if (r_c4 - r_c4 / x5_33 * x5_33) = 0 then ((a_sd_append f0_1_33 a1_33 x5_33).bind (fun (o1_c50, o0_1_c50) => a_sd_listFor_L33 r_c24 r_c4 n (x5_33 + (1 : Int32)) o1_c50 o0_1_c50)) else a_sd_listFor_L33 r_c24 r_c4 n (x5_33 + (1 : Int32)) a1_33 f0_1_33)))
def a_sd_listFor (N : Nat) (dr : Nat → Int32) (j1 : Int64) : Option ((Nat → Int32) × Int32 × Int64) := ((a_sd_largestRoot N (a_ma_abs j1)).bind (fun r_c4 => ((a_sd_floorOfRoot N r_c4.toInt64).bind (fun r_c24 => a_sd_listFor_L33 r_c24 r_c4 N (1 : Int32) dr (0 : Int32)))))
set_option maxHeartbeats 4000000 in
set_option maxRecDepth 100000 in
theorem w_a_sd_listFor (l : Launch) (D : va_G) (cI cJ : ClassId) (qd : Nat) (qw : Nat) (dn : Int32) (dq : Int64) (dr : Nat → Int32) (j1 : Int64) (N : Nat) (r0 : Nat → Int32) (r1 : Int32) (r2 : Int64) (hm : a_sd_listFor N dr j1 = some (r0, r1, r2)) : Met l y_sd_listFor zs_sd_listFor rm_sd_listFor (zPc [.ref qd, .long j1] D [(qd, .inr (2, [.ref qw, .int dn, .long dq])), (qw, .inl (cI, 64, .inl dr))] [(cI, .int), (cJ, .long)]) (zWr none D (zIn [(qd, .inr (2, [.ref qw, .int dn, .long dq])), (qw, .inl (cI, 64, .inl dr))]) [(qd, .inr (2, [.ref qw, .int r1, .long r2])), (qw, .inl (cI, 64, .inl r0))]) 0 0 (zIn [(qd, .inr (2, [.ref qw, .int dn, .long dq])), (qw, .inl (cI, 64, .inl dr))]) := by
  refine zm (by decide) (Nat.le_of_ble_eq_true rfl) ?_
  intro p e s m args below meth c R Q hR hQ hargs hx hb hml hr hlocks hnm hB hown hP hK hD0 ls hl
  have hown : s.vm.findClass "TorsionDesk$SquareDivisors" = some m.cls := hown
  have hl : lv_has ls 6 [(0, .ref qd), (1, .long j1)] := hl
  obtain ⟨A, hA⟩ : ∃ A, A = zIn [(qd, .inr (2, [.ref qw, .int dn, .long dq])), (qw, .inl (cI, 64, .inl dr))] := ⟨_, rfl⟩
  have hD : va_D A [(qd, .inr (2, [.ref qw, .int dn, .long dq])), (qw, .inl (cI, 64, .inl dr))] := by rw [hA]; exact zIn_self hD0
  have hS : va_S A s.heap s.heap [] := va_S.rf
  rw [← hA] at hQ
  have k63 : ∀ (r_c4 : Int32) (n : Nat) (a1_63 : Nat → Int32) (f0_1_63 : Int32) (x5_63 : Int32) (H : Heap) (locs : List Loc) (ls : Array Slot), lv_has ls 6 [(0, .ref qd), (3, .int r_c4), (5, .int x5_63)] → va_P D vwCl [(qd, .inr (2, [.ref qw, .int f0_1_63, .long (r_c4.toInt64 * r_c4.toInt64)])), (qw, .inl (cI, 64, .inl a1_63))] H → va_D A [(qd, .inr (2, [.ref qw, .int f0_1_63, .long (r_c4.toInt64 * r_c4.toInt64)])), (qw, .inl (cI, 64, .inl a1_63))] → va_S A s.heap H locs → a_sd_listFor_L63 r_c4 n a1_63 f0_1_63 x5_63 = some (r0, r1, r2) → W p l e R s m args below meth c H locs 0 0 Q (F0 m 63 ls []) := by
    intro r_c4 n
    induction n with
    | zero => intro a1_63 f0_1_63 x5_63  H locs ls hl hP hD hS hm; rw [a_sd_listFor_L63] at hm; cases hm
    | succ n ih =>
      intro a1_63 f0_1_63 x5_63  H locs ls hl hP hD hS hm
      rw [a_sd_listFor_L63] at hm
      refine lv_iload (pc := 63) hx hb d_sd_listFor_63 (lv_at hl 2 rfl) ?_
      refine lv_iconst (pc := 65) (v := (1 : Int32)) hx hb d_sd_listFor_65 (by decide) ?_
      refine lv_icmp_lt (pc := 66) (tgt := 99) hx hb d_sd_listFor_66 rfl (fun h5 => ?_) (fun h5 => ?_)
      · rw [if_pos h5] at hm
        cases hm
        rw [hQ]
        exact W.vret (pc := 99) hx hb hr (fun t ht _ => ⟨rfl, by rw [ht]; exact hP, hS.F ht⟩) hS.2.2 d_sd_listFor_99
      rw [if_neg h5] at hm
      refine lv_iload_n (pc := 69) hx hb d_sd_listFor_69 rfl (lv_at hl 1 rfl) ?_
      refine lv_iload (pc := 70) hx hb d_sd_listFor_70 (lv_at hl 2 rfl) ?_
      by_cases g6 : x5_63 = 0
      · rw [if_pos g6] at hm; cases hm
      rw [if_neg g6] at hm
      refine lv_irem (pc := 72) hx hb d_sd_listFor_72 g6 ?_
      refine lv_if_ne (pc := 73) (tgt := 93) hx hb d_sd_listFor_73 rfl (fun h7 => ?_) (fun h7 => ?_)
      · rw [if_neg h7] at hm
        refine lv_iinc (pc := 93) (k := 2) (v := x5_63 + (-1 : Int32)) (lv' := [(5, .int (x5_63 + (-1 : Int32))), (0, .ref qd), (3, .int r_c4)]) hx hb d_sd_listFor_93 hl rfl (congrArg (x5_63 + ·) (by decide)) (Nat.le_of_ble_eq_true rfl) rfl (fun ls hl => ?_)
        refine lv_goto (pc := 96) (tgt := 63) hx hb d_sd_listFor_96 rfl ?_
        exact ih a1_63 f0_1_63 (x5_63 + (-1 : Int32)) H locs ls (lv_sub hl [1, 2, 0] rfl) hP hD hS hm
      rw [if_pos h7] at hm
      refine lv_iload_n (pc := 76) hx hb d_sd_listFor_76 rfl (lv_at hl 1 rfl) ?_
      refine lv_iload (pc := 77) hx hb d_sd_listFor_77 (lv_at hl 2 rfl) ?_
      refine lv_idiv (pc := 79) hx hb d_sd_listFor_79 g6 ?_
      refine lv_iload (pc := 80) hx hb d_sd_listFor_80 (lv_at hl 2 rfl) ?_
      refine lv_icmp_le (pc := 82) (tgt := 93) hx hb d_sd_listFor_82 rfl (fun h8 => ?_) (fun h8 => ?_)
      · rw [if_pos h8] at hm
        refine lv_iinc (pc := 93) (k := 2) (v := x5_63 + (-1 : Int32)) (lv' := [(5, .int (x5_63 + (-1 : Int32))), (0, .ref qd), (3, .int r_c4)]) hx hb d_sd_listFor_93 hl rfl (congrArg (x5_63 + ·) (by decide)) (Nat.le_of_ble_eq_true rfl) rfl (fun ls hl => ?_)
        refine lv_goto (pc := 96) (tgt := 63) hx hb d_sd_listFor_96 rfl ?_
        exact ih a1_63 f0_1_63 (x5_63 + (-1 : Int32)) H locs ls (lv_sub hl [1, 2, 0] rfl) hP hD hS hm
      rw [if_neg h8] at hm
      refine lv_aload_n (pc := 85) hx hb d_sd_listFor_85 rfl (lv_at hl 0 rfl) ?_
      refine lv_iload_n (pc := 86) hx hb d_sd_listFor_86 rfl (lv_at hl 1 rfl) ?_
      refine lv_iload (pc := 87) hx hb d_sd_listFor_87 (lv_at hl 2 rfl) ?_
      refine lv_idiv (pc := 89) hx hb d_sd_listFor_89 g6 ?_
      obtain ⟨⟨o1_c90, o0_1_c90⟩, c9, hm⟩ := zbind hm
      try dsimp only at hm
      refine zwV (pc := 90) (As := [.int (r_c4 / x5_63)]) (rest := []) ⟨hx, hb, hml, hown, hB⟩ (w_a_sd_append l D cI cJ qd qw f0_1_63 (r_c4.toInt64 * r_c4.toInt64) a1_63 (r_c4 / x5_63) o1_c90 o0_1_c90 c9) (cwV 1 hB (zgV zw_353 zw_355 zv_sd_append zw_3 zw_356) rfl rfl rfl (by decide +kernel) ⟨by rw [hR]; exact Nat.le_of_ble_eq_true rfl, by rw [hR]; exact Nat.le_of_ble_eq_true rfl⟩) hK hP hD hS [0, 1] (by decide) rfl rfl rfl rfl rfl rfl hl.1 rfl (Nat.le_of_ble_eq_true rfl) d_sd_listFor_90 ⟨Nat.zero_le _, Nat.zero_le _⟩ (fun H locs hP hD hS => ?_)
      have hP : va_P D vwCl [(qd, .inr (2, [.ref qw, .int o0_1_c90, .long (r_c4.toInt64 * r_c4.toInt64)])), (qw, .inl (cI, 64, .inl o1_c90))] H := hP
      have hD : va_D A [(qd, .inr (2, [.ref qw, .int o0_1_c90, .long (r_c4.toInt64 * r_c4.toInt64)])), (qw, .inl (cI, 64, .inl o1_c90))] := hD
      refine lv_iinc (pc := 93) (k := 2) (v := x5_63 + (-1 : Int32)) (lv' := [(5, .int (x5_63 + (-1 : Int32))), (0, .ref qd), (3, .int r_c4)]) hx hb d_sd_listFor_93 hl rfl (congrArg (x5_63 + ·) (by decide)) (Nat.le_of_ble_eq_true rfl) rfl (fun ls hl => ?_)
      refine lv_goto (pc := 96) (tgt := 63) hx hb d_sd_listFor_96 rfl ?_
      exact ih o1_c90 o0_1_c90 (x5_63 + (-1 : Int32)) H locs ls (lv_sub hl [1, 2, 0] rfl) hP hD hS hm
  have k33 : ∀ (r_c24 : Int64) (r_c4 : Int32) (n : Nat) (x5_33 : Int32) (a1_33 : Nat → Int32) (f0_1_33 : Int32) (H : Heap) (locs : List Loc) (ls : Array Slot), lv_has ls 6 [(0, .ref qd), (3, .int r_c4), (4, .int r_c24.toInt32), (5, .int x5_33)] → va_P D vwCl [(qd, .inr (2, [.ref qw, .int f0_1_33, .long (r_c4.toInt64 * r_c4.toInt64)])), (qw, .inl (cI, 64, .inl a1_33))] H → va_D A [(qd, .inr (2, [.ref qw, .int f0_1_33, .long (r_c4.toInt64 * r_c4.toInt64)])), (qw, .inl (cI, 64, .inl a1_33))] → va_S A s.heap H locs → a_sd_listFor_L33 r_c24 r_c4 n x5_33 a1_33 f0_1_33 = some (r0, r1, r2) → W p l e R s m args below meth c H locs 0 0 Q (F0 m 33 ls []) := by
    intro r_c24 r_c4 n
    induction n with
    | zero => intro x5_33 a1_33 f0_1_33  H locs ls hl hP hD hS hm; rw [a_sd_listFor_L33] at hm; cases hm
    | succ n ih =>
      intro x5_33 a1_33 f0_1_33  H locs ls hl hP hD hS hm
      rw [a_sd_listFor_L33] at hm
      refine lv_iload (pc := 33) hx hb d_sd_listFor_33 (lv_at hl 3 rfl) ?_
      refine lv_iload (pc := 35) hx hb d_sd_listFor_35 (lv_at hl 2 rfl) ?_
      refine lv_icmp_gt (pc := 37) (tgt := 59) hx hb d_sd_listFor_37 rfl (fun h1 => ?_) (fun h1 => ?_)
      · rw [if_pos h1] at hm
        refine lv_iload (pc := 59) hx hb d_sd_listFor_59 (lv_at hl 2 rfl) ?_
        refine lv_istore (pc := 61) (lv' := [(5, .int r_c24.toInt32), (0, .ref qd), (3, .int r_c4), (4, .int r_c24.toInt32)]) hx hb d_sd_listFor_61 hl (Nat.le_of_ble_eq_true rfl) rfl (fun ls hl => ?_)
        exact k63 r_c4 n a1_33 f0_1_33 r_c24.toInt32 H locs ls (lv_sub hl [1, 2, 0] rfl) hP hD hS hm
      rw [if_neg h1] at hm
      refine lv_iload_n (pc := 40) hx hb d_sd_listFor_40 rfl (lv_at hl 1 rfl) ?_
      refine lv_iload (pc := 41) hx hb d_sd_listFor_41 (lv_at hl 3 rfl) ?_
      by_cases g2 : x5_33 = 0
      · rw [if_pos g2] at hm; cases hm
      rw [if_neg g2] at hm
      refine lv_irem (pc := 43) hx hb d_sd_listFor_43 g2 ?_
      refine lv_if_ne (pc := 44) (tgt := 53) hx hb d_sd_listFor_44 rfl (fun h3 => ?_) (fun h3 => ?_)
      · rw [if_neg h3] at hm
        refine lv_iinc (pc := 53) (k := 3) (v := x5_33 + (1 : Int32)) (lv' := [(5, .int (x5_33 + (1 : Int32))), (0, .ref qd), (3, .int r_c4), (4, .int r_c24.toInt32)]) hx hb d_sd_listFor_53 hl rfl (congrArg (x5_33 + ·) (by decide)) (Nat.le_of_ble_eq_true rfl) rfl (fun ls hl => ?_)
        refine lv_goto (pc := 56) (tgt := 33) hx hb d_sd_listFor_56 rfl ?_
        exact ih (x5_33 + (1 : Int32)) a1_33 f0_1_33 H locs ls (lv_sub hl [1, 2, 3, 0] rfl) hP hD hS hm
      rw [if_pos h3] at hm
      refine lv_aload_n (pc := 47) hx hb d_sd_listFor_47 rfl (lv_at hl 0 rfl) ?_
      refine lv_iload (pc := 48) hx hb d_sd_listFor_48 (lv_at hl 3 rfl) ?_
      obtain ⟨⟨o1_c50, o0_1_c50⟩, c4, hm⟩ := zbind hm
      try dsimp only at hm
      refine zwV (pc := 50) (As := [.int x5_33]) (rest := []) ⟨hx, hb, hml, hown, hB⟩ (w_a_sd_append l D cI cJ qd qw f0_1_33 (r_c4.toInt64 * r_c4.toInt64) a1_33 x5_33 o1_c50 o0_1_c50 c4) (cwV 1 hB (zgV zw_353 zw_355 zv_sd_append zw_3 zw_356) rfl rfl rfl (by decide +kernel) ⟨by rw [hR]; exact Nat.le_of_ble_eq_true rfl, by rw [hR]; exact Nat.le_of_ble_eq_true rfl⟩) hK hP hD hS [0, 1] (by decide) rfl rfl rfl rfl rfl rfl hl.1 rfl (Nat.le_of_ble_eq_true rfl) d_sd_listFor_50 ⟨Nat.zero_le _, Nat.zero_le _⟩ (fun H locs hP hD hS => ?_)
      have hP : va_P D vwCl [(qd, .inr (2, [.ref qw, .int o0_1_c50, .long (r_c4.toInt64 * r_c4.toInt64)])), (qw, .inl (cI, 64, .inl o1_c50))] H := hP
      have hD : va_D A [(qd, .inr (2, [.ref qw, .int o0_1_c50, .long (r_c4.toInt64 * r_c4.toInt64)])), (qw, .inl (cI, 64, .inl o1_c50))] := hD
      refine lv_iinc (pc := 53) (k := 3) (v := x5_33 + (1 : Int32)) (lv' := [(5, .int (x5_33 + (1 : Int32))), (0, .ref qd), (3, .int r_c4), (4, .int r_c24.toInt32)]) hx hb d_sd_listFor_53 hl rfl (congrArg (x5_33 + ·) (by decide)) (Nat.le_of_ble_eq_true rfl) rfl (fun ls hl => ?_)
      refine lv_goto (pc := 56) (tgt := 33) hx hb d_sd_listFor_56 rfl ?_
      exact ih (x5_33 + (1 : Int32)) o1_c50 o0_1_c50 H locs ls (lv_sub hl [1, 2, 3, 0] rfl) hP hD hS hm
  have main : ∀ (H : Heap) (locs : List Loc), va_P D vwCl [(qd, .inr (2, [.ref qw, .int dn, .long dq])), (qw, .inl (cI, 64, .inl dr))] H → va_D A [(qd, .inr (2, [.ref qw, .int dn, .long dq])), (qw, .inl (cI, 64, .inl dr))] → va_S A s.heap H locs → W p l e R s m args below meth c H locs 0 0 Q (F0 m 0 ls []) := by
    intro H locs hP hD hS
    rw [a_sd_listFor] at hm
    refine lv_lload_n (pc := 0) hx hb d_sd_listFor_0 rfl (lv_at hl 1 rfl) ?_
    refine zcS (pc := 1) (As := [.long j1]) (rest := []) ⟨hx, hb, hml, hown, hB⟩ (w_a_ma_abs l D cI cJ j1 _ rfl) (va_cwS 1 hB (zgS zw_341 zw_342 zw_11 zw_343) rfl rfl rfl (by decide +kernel) ⟨by rw [hR]; exact Nat.le_of_ble_eq_true rfl, by rw [hR]; exact Nat.le_of_ble_eq_true rfl⟩) hK (hP.sub (ws' := []) [] rfl) (hD.sub (ws' := []) [] (by decide) rfl) rfl hl.1 rfl (Nat.le_of_ble_eq_true rfl) d_sd_listFor_1 ⟨Nat.zero_le _, Nat.zero_le _⟩ ?_
    obtain ⟨r_c4, c1, hm⟩ := zbind hm
    try dsimp only at hm
    refine zcS (pc := 4) (As := [.long (a_ma_abs j1)]) (rest := []) ⟨hx, hb, hml, hown, hB⟩ (w_a_sd_largestRoot l D cI cJ (a_ma_abs j1) N r_c4 c1) (va_cwS 1 hB (zgS zw_344 zw_345 zw_3 zw_346) rfl rfl rfl (by decide +kernel) ⟨by rw [hR]; exact Nat.le_of_ble_eq_true rfl, by rw [hR]; exact Nat.le_of_ble_eq_true rfl⟩) hK (hP.sub (ws' := []) [] rfl) (hD.sub (ws' := []) [] (by decide) rfl) rfl hl.1 rfl (Nat.le_of_ble_eq_true rfl) d_sd_listFor_4 ⟨Nat.zero_le _, Nat.zero_le _⟩ ?_
    refine lv_istore_n (pc := 7) (lv' := [(3, .int r_c4), (0, .ref qd), (1, .long j1)]) hx hb d_sd_listFor_7 rfl hl (Nat.le_of_ble_eq_true rfl) rfl (fun ls hl => ?_)
    refine lv_aload_n (pc := 8) hx hb d_sd_listFor_8 rfl (lv_at hl 1 rfl) ?_
    refine lv_iload_n (pc := 9) hx hb d_sd_listFor_9 rfl (lv_at hl 0 rfl) ?_
    refine lv_i2l (pc := 10) hx hb d_sd_listFor_10 rfl ?_
    refine lv_iload_n (pc := 11) hx hb d_sd_listFor_11 rfl (lv_at hl 0 rfl) ?_
    refine lv_i2l (pc := 12) hx hb d_sd_listFor_12 rfl ?_
    refine lv_lmul (pc := 13) hx hb d_sd_listFor_13 ?_
    refine va_put (pc := 14) (D := D) (ci := 2) (v := .long (r_c4.toInt64 * r_c4.toInt64)) (ty := .long) (C := "TorsionDesk$SquareDivisors") (T := tX2) (N := 3) hx hb hB lX2 yX2 yX2_ok nX2 hown hK hP hD hS 0 rfl rfl 2 (by decide) (hB _ zw_57) (fun _ h9 => h9) rfl (by decide +kernel) rfl rfl (Nat.le_of_ble_eq_true rfl) d_sd_listFor_14 (fun H locs hP hD hS => ?_)
    have hP : va_P D vwCl [(qd, .inr (2, [.ref qw, .int dn, .long (r_c4.toInt64 * r_c4.toInt64)])), (qw, .inl (cI, 64, .inl dr))] H := hP
    have hD : va_D A [(qd, .inr (2, [.ref qw, .int dn, .long (r_c4.toInt64 * r_c4.toInt64)])), (qw, .inl (cI, 64, .inl dr))] := hD
    refine lv_aload_n (pc := 17) hx hb d_sd_listFor_17 rfl (lv_at hl 1 rfl) ?_
    refine lv_iconst (pc := 18) (v := (0 : Int32)) hx hb d_sd_listFor_18 (by decide) ?_
    refine va_put (pc := 19) (D := D) (ci := 2) (v := .int (0 : Int32)) (ty := .int) (C := "TorsionDesk$SquareDivisors") (T := tX2) (N := 3) hx hb hB lX2 yX2 yX2_ok nX2 hown hK hP hD hS 0 rfl rfl 1 (by decide) (hB _ zw_55) (fun _ h9 => h9) rfl (by decide +kernel) rfl rfl (Nat.le_of_ble_eq_true rfl) d_sd_listFor_19 (fun H locs hP hD hS => ?_)
    have hP : va_P D vwCl [(qd, .inr (2, [.ref qw, .int (0 : Int32), .long (r_c4.toInt64 * r_c4.toInt64)])), (qw, .inl (cI, 64, .inl dr))] H := hP
    have hD : va_D A [(qd, .inr (2, [.ref qw, .int (0 : Int32), .long (r_c4.toInt64 * r_c4.toInt64)])), (qw, .inl (cI, 64, .inl dr))] := hD
    refine lv_iload_n (pc := 22) hx hb d_sd_listFor_22 rfl (lv_at hl 0 rfl) ?_
    refine lv_i2l (pc := 23) hx hb d_sd_listFor_23 rfl ?_
    obtain ⟨r_c24, c2, hm⟩ := zbind hm
    try dsimp only at hm
    refine zcS (pc := 24) (As := [.long r_c4.toInt64]) (rest := []) ⟨hx, hb, hml, hown, hB⟩ (w_a_sd_floorOfRoot l D cI cJ r_c4.toInt64 N r_c24 c2) (va_cwS 1 hB (zgS zw_349 zw_350 zw_3 zw_351) rfl rfl rfl (by decide +kernel) ⟨by rw [hR]; exact Nat.le_of_ble_eq_true rfl, by rw [hR]; exact Nat.le_of_ble_eq_true rfl⟩) hK (hP.sub (ws' := []) [] rfl) (hD.sub (ws' := []) [] (by decide) rfl) rfl hl.1 rfl (Nat.le_of_ble_eq_true rfl) d_sd_listFor_24 ⟨Nat.zero_le _, Nat.zero_le _⟩ ?_
    refine lv_l2i (pc := 27) hx hb d_sd_listFor_27 rfl ?_
    refine lv_istore (pc := 28) (lv' := [(4, .int r_c24.toInt32), (3, .int r_c4), (0, .ref qd), (1, .long j1)]) hx hb d_sd_listFor_28 hl (Nat.le_of_ble_eq_true rfl) rfl (fun ls hl => ?_)
    refine lv_iconst (pc := 30) (v := (1 : Int32)) hx hb d_sd_listFor_30 (by decide) ?_
    refine lv_istore (pc := 31) (lv' := [(5, .int (1 : Int32)), (4, .int r_c24.toInt32), (3, .int r_c4), (0, .ref qd), (1, .long j1)]) hx hb d_sd_listFor_31 hl (Nat.le_of_ble_eq_true rfl) rfl (fun ls hl => ?_)
    exact k33 r_c24 r_c4 N (1 : Int32) dr (0 : Int32) H locs ls (lv_sub hl [3, 2, 1, 0] rfl) hP hD hS hm
  exact main s.heap [] hP hD hS
abbrev rm_sd_rootOf : Room := { frames := 0, cells := 0, slots := 0, locals := 0 }
def a_sd_rootOf_L21 (dn : Int32) (dr : Nat → Int32) (j1 : Int64) : Nat → Int32 → Option (Int32)
  | 0, _ => none
  | n + 1, x3_21 => (if dn ≤ x3_21 then (some (-1 : Int32)) else (if (x3_21 < 0 ∨ 64 ≤ x3_21.toNatClampNeg) then none else (if (((dr x3_21.toNatClampNeg).toInt64) * ((dr x3_21.toNatClampNeg).toInt64)) = j1 then (some (dr x3_21.toNatClampNeg)) else a_sd_rootOf_L21 dn dr j1 n (x3_21 + (1 : Int32)))))
def a_sd_rootOf (N : Nat) (dn : Int32) (dq : Int64) (dr : Nat → Int32) (j1 : Int64) : Option (Int32) := (if j1 < (1 : Int64) then (some (-1 : Int32)) else (if j1 = 0 then none else (if (dq - dq / j1 * j1) = (0 : Int64) then a_sd_rootOf_L21 dn dr j1 N (0 : Int32) else (some (-1 : Int32)))))
set_option maxHeartbeats 4000000 in
set_option maxRecDepth 100000 in
theorem w_a_sd_rootOf (l : Launch) (D : va_G) (cI cJ : ClassId) (qd : Nat) (qw : Nat) (dn : Int32) (dq : Int64) (dr : Nat → Int32) (j1 : Int64) (N : Nat) (r0 : Int32) (hm : a_sd_rootOf N dn dq dr j1 = some r0) : Met l y_sd_rootOf zs_sd_rootOf rm_sd_rootOf (zPc [.ref qd, .long j1] D [(qd, .inr (2, [.ref qw, .int dn, .long dq])), (qw, .inl (cI, 64, .inl dr))] [(cI, .int), (cJ, .long)]) (zRd (some (.int r0))) 0 0 (fun _ => False) := by
  refine zm (by decide) (Nat.le_of_ble_eq_true rfl) ?_
  intro p e s m args below meth c R Q hR hQ hargs hx hb hml hr hlocks hnm hB hown hP hK hD0 ls hl
  have hown : s.vm.findClass "TorsionDesk$SquareDivisors" = some m.cls := hown
  have hl : lv_has ls 4 [(0, .ref qd), (1, .long j1)] := hl
  have k21 : ∀ (n : Nat) (x3_21 : Int32) (ls : Array Slot), lv_has ls 4 [(0, .ref qd), (1, .long j1), (3, .int x3_21)] → a_sd_rootOf_L21 dn dr j1 n x3_21 = some r0 → W p l e R s m args below meth c s.heap [] 0 0 Q (F0 m 21 ls []) := by
    intro n
    induction n with
    | zero => intro x3_21  ls hl hm; rw [a_sd_rootOf_L21] at hm; cases hm
    | succ n ih =>
      intro x3_21  ls hl hm
      rw [a_sd_rootOf_L21] at hm
      refine lv_iload_n (pc := 21) hx hb d_sd_rootOf_21 rfl (lv_at hl 2 rfl) ?_
      refine lv_aload_n (pc := 22) hx hb d_sd_rootOf_22 rfl (lv_at hl 0 rfl) ?_
      refine va_get (pc := 23) (D := D) (ci := 2) (v := .int dn) (C := "TorsionDesk$SquareDivisors") (T := tX2) (N := 3) hx hb hB lX2 hown hK hP 0 rfl rfl 1 (by decide) (hB _ zw_55) (fun _ h9 => h9) rfl d_sd_rootOf_23 ?_
      refine lv_icmp_ge (pc := 26) (tgt := 62) hx hb d_sd_rootOf_26 rfl (fun h1 => ?_) (fun h1 => ?_)
      · rw [if_pos h1] at hm
        refine lv_iconst (pc := 62) (v := (-1 : Int32)) hx hb d_sd_rootOf_62 (by decide) ?_
        cases hm
        rw [hQ]
        exact W.iret (pc := 63) hx hb hr (fun t ht _ => ⟨rfl, ht⟩) (fun _ h9 => nomatch h9) d_sd_rootOf_63
      rw [if_neg h1] at hm
      refine lv_aload_n (pc := 29) hx hb d_sd_rootOf_29 rfl (lv_at hl 0 rfl) ?_
      refine va_get (pc := 30) (D := D) (ci := 2) (v := .ref qw) (C := "TorsionDesk$SquareDivisors") (T := tX2) (N := 3) hx hb hB lX2 hown hK hP 0 rfl rfl 0 (by decide) (hB _ zw_53) (fun _ h9 => h9) rfl d_sd_rootOf_30 ?_
      refine lv_iload_n (pc := 33) hx hb d_sd_rootOf_33 rfl (lv_at hl 2 rfl) ?_
      by_cases g2 : (x3_21 < 0 ∨ 64 ≤ x3_21.toNatClampNeg)
      · rw [if_pos g2] at hm; cases hm
      rw [if_neg g2] at hm
      refine va_iald (pc := 34) hx hb hK hP 1 0 rfl rfl g2 d_sd_rootOf_34 ?_
      refine lv_i2l (pc := 35) hx hb d_sd_rootOf_35 rfl ?_
      refine lv_aload_n (pc := 36) hx hb d_sd_rootOf_36 rfl (lv_at hl 0 rfl) ?_
      refine va_get (pc := 37) (D := D) (ci := 2) (v := .ref qw) (C := "TorsionDesk$SquareDivisors") (T := tX2) (N := 3) hx hb hB lX2 hown hK hP 0 rfl rfl 0 (by decide) (hB _ zw_53) (fun _ h9 => h9) rfl d_sd_rootOf_37 ?_
      refine lv_iload_n (pc := 40) hx hb d_sd_rootOf_40 rfl (lv_at hl 2 rfl) ?_
      refine va_iald (pc := 41) hx hb hK hP 1 0 rfl rfl g2 d_sd_rootOf_41 ?_
      refine lv_i2l (pc := 42) hx hb d_sd_rootOf_42 rfl ?_
      refine lv_lmul (pc := 43) hx hb d_sd_rootOf_43 ?_
      refine lv_lload_n (pc := 44) hx hb d_sd_rootOf_44 rfl (lv_at hl 1 rfl) ?_
      refine zl_ne (pc := 45) (tgt := 56) hx hb d_sd_rootOf_45 d_sd_rootOf_46 rfl (fun h3 => ?_) (fun h3 => ?_)
      · rw [if_neg h3] at hm
        refine lv_iinc (pc := 56) (k := 2) (v := x3_21 + (1 : Int32)) (lv' := [(3, .int (x3_21 + (1 : Int32))), (0, .ref qd), (1, .long j1)]) hx hb d_sd_rootOf_56 hl rfl (congrArg (x3_21 + ·) (by decide)) (Nat.le_of_ble_eq_true rfl) rfl (fun ls hl => ?_)
        refine lv_goto (pc := 59) (tgt := 21) hx hb d_sd_rootOf_59 rfl ?_
        exact ih (x3_21 + (1 : Int32)) ls (lv_sub hl [1, 2, 0] rfl) hm
      rw [if_pos h3] at hm
      refine lv_aload_n (pc := 49) hx hb d_sd_rootOf_49 rfl (lv_at hl 0 rfl) ?_
      refine va_get (pc := 50) (D := D) (ci := 2) (v := .ref qw) (C := "TorsionDesk$SquareDivisors") (T := tX2) (N := 3) hx hb hB lX2 hown hK hP 0 rfl rfl 0 (by decide) (hB _ zw_53) (fun _ h9 => h9) rfl d_sd_rootOf_50 ?_
      refine lv_iload_n (pc := 53) hx hb d_sd_rootOf_53 rfl (lv_at hl 2 rfl) ?_
      refine va_iald (pc := 54) hx hb hK hP 1 0 rfl rfl g2 d_sd_rootOf_54 ?_
      cases hm
      rw [hQ]
      exact W.iret (pc := 55) hx hb hr (fun t ht _ => ⟨rfl, ht⟩) (fun _ h9 => nomatch h9) d_sd_rootOf_55
  rw [a_sd_rootOf] at hm
  refine lv_lload_n (pc := 0) hx hb d_sd_rootOf_0 rfl (lv_at hl 1 rfl) ?_
  refine lv_lconst (pc := 1) (v := (1 : Int64)) hx hb d_sd_rootOf_1 (by decide) ?_
  refine zl_lt (pc := 2) (tgt := 17) hx hb d_sd_rootOf_2 d_sd_rootOf_3 rfl (fun h1 => ?_) (fun h1 => ?_)
  · rw [if_pos h1] at hm
    refine lv_iconst (pc := 17) (v := (-1 : Int32)) hx hb d_sd_rootOf_17 (by decide) ?_
    cases hm
    rw [hQ]
    exact W.iret (pc := 18) hx hb hr (fun t ht _ => ⟨rfl, ht⟩) (fun _ h9 => nomatch h9) d_sd_rootOf_18
  rw [if_neg h1] at hm
  refine lv_aload_n (pc := 6) hx hb d_sd_rootOf_6 rfl (lv_at hl 0 rfl) ?_
  refine va_get (pc := 7) (D := D) (ci := 2) (v := .long dq) (C := "TorsionDesk$SquareDivisors") (T := tX2) (N := 3) hx hb hB lX2 hown hK hP 0 rfl rfl 2 (by decide) (hB _ zw_57) (fun _ h9 => h9) rfl d_sd_rootOf_7 ?_
  refine lv_lload_n (pc := 10) hx hb d_sd_rootOf_10 rfl (lv_at hl 1 rfl) ?_
  by_cases g2 : j1 = 0
  · rw [if_pos g2] at hm; cases hm
  rw [if_neg g2] at hm
  refine lv_lrem (pc := 11) hx hb d_sd_rootOf_11 g2 ?_
  refine lv_lconst (pc := 12) (v := (0 : Int64)) hx hb d_sd_rootOf_12 (by decide) ?_
  refine zl_eq (pc := 13) (tgt := 19) hx hb d_sd_rootOf_13 d_sd_rootOf_14 rfl (fun h3 => ?_) (fun h3 => ?_)
  · rw [if_pos h3] at hm
    refine lv_iconst (pc := 19) (v := (0 : Int32)) hx hb d_sd_rootOf_19 (by decide) ?_
    refine lv_istore_n (pc := 20) (lv' := [(3, .int (0 : Int32)), (0, .ref qd), (1, .long j1)]) hx hb d_sd_rootOf_20 rfl hl (Nat.le_of_ble_eq_true rfl) rfl (fun ls hl => ?_)
    exact k21 N (0 : Int32) ls (lv_sub hl [1, 2, 0] rfl) hm
  rw [if_neg h3] at hm
  refine lv_iconst (pc := 17) (v := (-1 : Int32)) hx hb d_sd_rootOf_17 (by decide) ?_
  cases hm
  rw [hQ]
  exact W.iret (pc := 18) hx hb hr (fun t ht _ => ⟨rfl, ht⟩) (fun _ h9 => nomatch h9) d_sd_rootOf_18
