abbrev rm_md_structure_Ix : Room := { frames := 0, cells := 0, slots := 0, locals := 0 }
def a_md_structure_Ix (mh : Int32) (mr : Int32) (ml : Int32) (mf : Int32) (ms : Int32) (i1 : Int32) : Option (Int32 × Int32) := (if mh = 0 then (some ((-1 : Int32), (0 : Int32))) else (if i1 < 0 then (some ((-1 : Int32), (0 : Int32))) else (if i1 ≤ (3 : Int32) then (if i1 = 0 then (some (mr, (0 : Int32))) else (if i1 = (1 : Int32) then (some (ml, (0 : Int32))) else (if i1 = (2 : Int32) then (some (mf, (0 : Int32))) else (some (ms, (0 : Int32)))))) else (some ((-1 : Int32), (0 : Int32))))))
set_option maxHeartbeats 4000000 in
set_option maxRecDepth 100000 in
theorem w_a_md_structure_Ix (l : Launch) (D : va_G) (cI cJ : ClassId) (qm : Nat) (qa : Nat) (qb : Nat) (qc : Nat) (mt : Int32) (mh : Int32) (ma : Int32) (mc : Int32) (mp : Int32) (mz : Int32) (mw : Int32) (mr : Int32) (ml : Int32) (mf : Int32) (ms : Int32) (m1 : Int64) (m2 : Int64) (m3 : Int64) (m4 : Int64) (mx : Int64) (my : Int64) (pa : Nat → Int32) (pb : Nat → Int32) (po : Nat → Int32) (i1 : Int32) (r0 : Int32) (r1 : Int32) (hm : a_md_structure_Ix mh mr ml mf ms i1 = some (r0, r1)) : Met l y_md_structure_Ix zs_md_structure_Ix rm_md_structure_Ix (zPc [.ref qm, .int i1] D [(qm, .inr (4, [.int mt, .int mh, .int ma, .int mc, .long m1, .long m2, .long m3, .long m4, .int mp, .ref qa, .ref qb, .ref qc, .int mz, .int mw, .long mx, .long my, .int mr, .int ml, .int mf, .int ms])), (qa, .inl (cI, 40, .inl pa)), (qb, .inl (cI, 40, .inl pb)), (qc, .inl (cI, 40, .inl po))] [(cI, .int), (cJ, .long)]) (zWr (some (.int r0)) D (zIn [(qm, .inr (4, [.int mt, .int mh, .int ma, .int mc, .long m1, .long m2, .long m3, .long m4, .int mp, .ref qa, .ref qb, .ref qc, .int mz, .int mw, .long mx, .long my, .int mr, .int ml, .int mf, .int ms])), (qa, .inl (cI, 40, .inl pa)), (qb, .inl (cI, 40, .inl pb)), (qc, .inl (cI, 40, .inl po))]) [(qm, .inr (4, [.int r1, .int mh, .int ma, .int mc, .long m1, .long m2, .long m3, .long m4, .int mp, .ref qa, .ref qb, .ref qc, .int mz, .int mw, .long mx, .long my, .int mr, .int ml, .int mf, .int ms])), (qa, .inl (cI, 40, .inl pa)), (qb, .inl (cI, 40, .inl pb)), (qc, .inl (cI, 40, .inl po))]) 0 0 (zIn [(qm, .inr (4, [.int mt, .int mh, .int ma, .int mc, .long m1, .long m2, .long m3, .long m4, .int mp, .ref qa, .ref qb, .ref qc, .int mz, .int mw, .long mx, .long my, .int mr, .int ml, .int mf, .int ms])), (qa, .inl (cI, 40, .inl pa)), (qb, .inl (cI, 40, .inl pb)), (qc, .inl (cI, 40, .inl po))]) := by
  refine zm (by decide) (Nat.le_of_ble_eq_true rfl) ?_
  intro p e s m args below meth c R Q hR hQ hargs hx hb hml hr hlocks hnm hB hown hP hK hD0 ls hl
  have hown : s.vm.findClass "TorsionDeskModel" = some m.cls := hown
  have hl : lv_has ls 2 [(0, .ref qm), (1, .int i1)] := hl
  obtain ⟨A, hA⟩ : ∃ A, A = zIn [(qm, .inr (4, [.int mt, .int mh, .int ma, .int mc, .long m1, .long m2, .long m3, .long m4, .int mp, .ref qa, .ref qb, .ref qc, .int mz, .int mw, .long mx, .long my, .int mr, .int ml, .int mf, .int ms])), (qa, .inl (cI, 40, .inl pa)), (qb, .inl (cI, 40, .inl pb)), (qc, .inl (cI, 40, .inl po))] := ⟨_, rfl⟩
  have hD : va_D A [(qm, .inr (4, [.int mt, .int mh, .int ma, .int mc, .long m1, .long m2, .long m3, .long m4, .int mp, .ref qa, .ref qb, .ref qc, .int mz, .int mw, .long mx, .long my, .int mr, .int ml, .int mf, .int ms])), (qa, .inl (cI, 40, .inl pa)), (qb, .inl (cI, 40, .inl pb)), (qc, .inl (cI, 40, .inl po))] := by rw [hA]; exact zIn_self hD0
  have hS : va_S A s.heap s.heap [] := va_S.rf
  rw [← hA] at hQ
  have main : ∀ (H : Heap) (locs : List Loc), va_P D vwCl [(qm, .inr (4, [.int mt, .int mh, .int ma, .int mc, .long m1, .long m2, .long m3, .long m4, .int mp, .ref qa, .ref qb, .ref qc, .int mz, .int mw, .long mx, .long my, .int mr, .int ml, .int mf, .int ms])), (qa, .inl (cI, 40, .inl pa)), (qb, .inl (cI, 40, .inl pb)), (qc, .inl (cI, 40, .inl po))] H → va_D A [(qm, .inr (4, [.int mt, .int mh, .int ma, .int mc, .long m1, .long m2, .long m3, .long m4, .int mp, .ref qa, .ref qb, .ref qc, .int mz, .int mw, .long mx, .long my, .int mr, .int ml, .int mf, .int ms])), (qa, .inl (cI, 40, .inl pa)), (qb, .inl (cI, 40, .inl pb)), (qc, .inl (cI, 40, .inl po))] → va_S A s.heap H locs → W p l e R s m args below meth c H locs 0 0 Q (F0 m 0 ls []) := by
    intro H locs hP hD hS
    rw [a_md_structure_Ix] at hm
    refine lv_aload_n (pc := 0) hx hb d_md_structure_Ix_0 rfl (lv_at hl 0 rfl) ?_
    refine lv_iconst (pc := 1) (v := (0 : Int32)) hx hb d_md_structure_Ix_1 (by decide) ?_
    refine va_put (pc := 2) (D := D) (ci := 4) (v := .int (0 : Int32)) (ty := .int) (C := "TorsionDeskModel") (T := tX4) (N := 20) hx hb hB lX4 yX4 yX4_ok nX4 hown hK hP hD hS 0 rfl rfl 0 (by decide) (hB _ zw_417) (fun _ h9 => h9) rfl (by decide +kernel) rfl rfl (Nat.le_of_ble_eq_true rfl) d_md_structure_Ix_2 (fun H locs hP hD hS => ?_)
    have hP : va_P D vwCl [(qm, .inr (4, [.int (0 : Int32), .int mh, .int ma, .int mc, .long m1, .long m2, .long m3, .long m4, .int mp, .ref qa, .ref qb, .ref qc, .int mz, .int mw, .long mx, .long my, .int mr, .int ml, .int mf, .int ms])), (qa, .inl (cI, 40, .inl pa)), (qb, .inl (cI, 40, .inl pb)), (qc, .inl (cI, 40, .inl po))] H := hP
    have hD : va_D A [(qm, .inr (4, [.int (0 : Int32), .int mh, .int ma, .int mc, .long m1, .long m2, .long m3, .long m4, .int mp, .ref qa, .ref qb, .ref qc, .int mz, .int mw, .long mx, .long my, .int mr, .int ml, .int mf, .int ms])), (qa, .inl (cI, 40, .inl pa)), (qb, .inl (cI, 40, .inl pb)), (qc, .inl (cI, 40, .inl po))] := hD
    refine lv_aload_n (pc := 5) hx hb d_md_structure_Ix_5 rfl (lv_at hl 0 rfl) ?_
    refine va_get (pc := 6) (D := D) (ci := 4) (v := .int mh) (C := "TorsionDeskModel") (T := tX4) (N := 20) hx hb hB lX4 hown hK hP 0 rfl rfl 1 (by decide) (hB _ zw_418) (fun _ h9 => h9) rfl d_md_structure_Ix_6 ?_
    refine lv_if_eq (pc := 9) (tgt := 21) hx hb d_md_structure_Ix_9 rfl (fun h1 => ?_) (fun h1 => ?_)
    · rw [if_pos h1] at hm
      refine lv_iconst (pc := 21) (v := (-1 : Int32)) hx hb d_md_structure_Ix_21 (by decide) ?_
      cases hm
      rw [hQ]
      exact W.iret (pc := 22) hx hb hr (fun t ht _ => ⟨rfl, by rw [ht]; exact hP, hS.F ht⟩) hS.2.2 d_md_structure_Ix_22
    rw [if_neg h1] at hm
    refine lv_iload_n (pc := 12) hx hb d_md_structure_Ix_12 rfl (lv_at hl 1 rfl) ?_
    refine lv_if_lt (pc := 13) (tgt := 21) hx hb d_md_structure_Ix_13 rfl (fun h2 => ?_) (fun h2 => ?_)
    · rw [if_pos h2] at hm
      refine lv_iconst (pc := 21) (v := (-1 : Int32)) hx hb d_md_structure_Ix_21 (by decide) ?_
      cases hm
      rw [hQ]
      exact W.iret (pc := 22) hx hb hr (fun t ht _ => ⟨rfl, by rw [ht]; exact hP, hS.F ht⟩) hS.2.2 d_md_structure_Ix_22
    rw [if_neg h2] at hm
    refine lv_iload_n (pc := 16) hx hb d_md_structure_Ix_16 rfl (lv_at hl 1 rfl) ?_
    refine lv_iconst (pc := 17) (v := (3 : Int32)) hx hb d_md_structure_Ix_17 (by decide) ?_
    refine lv_icmp_le (pc := 18) (tgt := 23) hx hb d_md_structure_Ix_18 rfl (fun h3 => ?_) (fun h3 => ?_)
    · rw [if_pos h3] at hm
      refine lv_iload_n (pc := 23) hx hb d_md_structure_Ix_23 rfl (lv_at hl 1 rfl) ?_
      refine lv_if_ne (pc := 24) (tgt := 34) hx hb d_md_structure_Ix_24 rfl (fun h4 => ?_) (fun h4 => ?_)
      · rw [if_neg h4] at hm
        refine lv_iload_n (pc := 34) hx hb d_md_structure_Ix_34 rfl (lv_at hl 1 rfl) ?_
        refine lv_iconst (pc := 35) (v := (1 : Int32)) hx hb d_md_structure_Ix_35 (by decide) ?_
        refine lv_icmp_ne (pc := 36) (tgt := 46) hx hb d_md_structure_Ix_36 rfl (fun h5 => ?_) (fun h5 => ?_)
        · rw [if_neg h5] at hm
          refine lv_iload_n (pc := 46) hx hb d_md_structure_Ix_46 rfl (lv_at hl 1 rfl) ?_
          refine lv_iconst (pc := 47) (v := (2 : Int32)) hx hb d_md_structure_Ix_47 (by decide) ?_
          refine lv_icmp_ne (pc := 48) (tgt := 58) hx hb d_md_structure_Ix_48 rfl (fun h6 => ?_) (fun h6 => ?_)
          · rw [if_neg h6] at hm
            refine lv_aload_n (pc := 58) hx hb d_md_structure_Ix_58 rfl (lv_at hl 0 rfl) ?_
            refine va_get (pc := 59) (D := D) (ci := 4) (v := .int ms) (C := "TorsionDeskModel") (T := tX4) (N := 20) hx hb hB lX4 hown hK hP 0 rfl rfl 19 (by decide) (hB _ zw_436) (fun _ h9 => h9) rfl d_md_structure_Ix_59 ?_
            cases hm
            rw [hQ]
            exact W.iret (pc := 62) hx hb hr (fun t ht _ => ⟨rfl, by rw [ht]; exact hP, hS.F ht⟩) hS.2.2 d_md_structure_Ix_62
          rw [if_pos h6] at hm
          refine lv_aload_n (pc := 51) hx hb d_md_structure_Ix_51 rfl (lv_at hl 0 rfl) ?_
          refine va_get (pc := 52) (D := D) (ci := 4) (v := .int mf) (C := "TorsionDeskModel") (T := tX4) (N := 20) hx hb hB lX4 hown hK hP 0 rfl rfl 18 (by decide) (hB _ zw_435) (fun _ h9 => h9) rfl d_md_structure_Ix_52 ?_
          refine lv_goto (pc := 55) (tgt := 62) hx hb d_md_structure_Ix_55 rfl ?_
          cases hm
          rw [hQ]
          exact W.iret (pc := 62) hx hb hr (fun t ht _ => ⟨rfl, by rw [ht]; exact hP, hS.F ht⟩) hS.2.2 d_md_structure_Ix_62
        rw [if_pos h5] at hm
        refine lv_aload_n (pc := 39) hx hb d_md_structure_Ix_39 rfl (lv_at hl 0 rfl) ?_
        refine va_get (pc := 40) (D := D) (ci := 4) (v := .int ml) (C := "TorsionDeskModel") (T := tX4) (N := 20) hx hb hB lX4 hown hK hP 0 rfl rfl 17 (by decide) (hB _ zw_434) (fun _ h9 => h9) rfl d_md_structure_Ix_40 ?_
        refine lv_goto (pc := 43) (tgt := 62) hx hb d_md_structure_Ix_43 rfl ?_
        cases hm
        rw [hQ]
        exact W.iret (pc := 62) hx hb hr (fun t ht _ => ⟨rfl, by rw [ht]; exact hP, hS.F ht⟩) hS.2.2 d_md_structure_Ix_62
      rw [if_pos h4] at hm
      refine lv_aload_n (pc := 27) hx hb d_md_structure_Ix_27 rfl (lv_at hl 0 rfl) ?_
      refine va_get (pc := 28) (D := D) (ci := 4) (v := .int mr) (C := "TorsionDeskModel") (T := tX4) (N := 20) hx hb hB lX4 hown hK hP 0 rfl rfl 16 (by decide) (hB _ zw_433) (fun _ h9 => h9) rfl d_md_structure_Ix_28 ?_
      refine lv_goto (pc := 31) (tgt := 62) hx hb d_md_structure_Ix_31 rfl ?_
      cases hm
      rw [hQ]
      exact W.iret (pc := 62) hx hb hr (fun t ht _ => ⟨rfl, by rw [ht]; exact hP, hS.F ht⟩) hS.2.2 d_md_structure_Ix_62
    rw [if_neg h3] at hm
    refine lv_iconst (pc := 21) (v := (-1 : Int32)) hx hb d_md_structure_Ix_21 (by decide) ?_
    cases hm
    rw [hQ]
    exact W.iret (pc := 22) hx hb hr (fun t ht _ => ⟨rfl, by rw [ht]; exact hP, hS.F ht⟩) hS.2.2 d_md_structure_Ix_22
  exact main s.heap [] hP hD hS
abbrev rm_md_discriminant : Room := { frames := 0, cells := 0, slots := 0, locals := 0 }
def a_md_discriminant (mh : Int32) (m4 : Int64) : Option (Int64 × Int32) := (if mh = 0 then (some ((0 : Int64), (0 : Int32))) else (some (m4, (0 : Int32))))
set_option maxHeartbeats 4000000 in
set_option maxRecDepth 100000 in
theorem w_a_md_discriminant (l : Launch) (D : va_G) (cI cJ : ClassId) (qm : Nat) (qa : Nat) (qb : Nat) (qc : Nat) (mt : Int32) (mh : Int32) (ma : Int32) (mc : Int32) (mp : Int32) (mz : Int32) (mw : Int32) (mr : Int32) (ml : Int32) (mf : Int32) (ms : Int32) (m1 : Int64) (m2 : Int64) (m3 : Int64) (m4 : Int64) (mx : Int64) (my : Int64) (pa : Nat → Int32) (pb : Nat → Int32) (po : Nat → Int32) (r0 : Int64) (r1 : Int32) (hm : a_md_discriminant mh m4 = some (r0, r1)) : Met l y_md_discriminant zs_md_discriminant rm_md_discriminant (zPc [.ref qm] D [(qm, .inr (4, [.int mt, .int mh, .int ma, .int mc, .long m1, .long m2, .long m3, .long m4, .int mp, .ref qa, .ref qb, .ref qc, .int mz, .int mw, .long mx, .long my, .int mr, .int ml, .int mf, .int ms])), (qa, .inl (cI, 40, .inl pa)), (qb, .inl (cI, 40, .inl pb)), (qc, .inl (cI, 40, .inl po))] [(cI, .int), (cJ, .long)]) (zWr (some (.long r0)) D (zIn [(qm, .inr (4, [.int mt, .int mh, .int ma, .int mc, .long m1, .long m2, .long m3, .long m4, .int mp, .ref qa, .ref qb, .ref qc, .int mz, .int mw, .long mx, .long my, .int mr, .int ml, .int mf, .int ms])), (qa, .inl (cI, 40, .inl pa)), (qb, .inl (cI, 40, .inl pb)), (qc, .inl (cI, 40, .inl po))]) [(qm, .inr (4, [.int r1, .int mh, .int ma, .int mc, .long m1, .long m2, .long m3, .long m4, .int mp, .ref qa, .ref qb, .ref qc, .int mz, .int mw, .long mx, .long my, .int mr, .int ml, .int mf, .int ms])), (qa, .inl (cI, 40, .inl pa)), (qb, .inl (cI, 40, .inl pb)), (qc, .inl (cI, 40, .inl po))]) 0 0 (zIn [(qm, .inr (4, [.int mt, .int mh, .int ma, .int mc, .long m1, .long m2, .long m3, .long m4, .int mp, .ref qa, .ref qb, .ref qc, .int mz, .int mw, .long mx, .long my, .int mr, .int ml, .int mf, .int ms])), (qa, .inl (cI, 40, .inl pa)), (qb, .inl (cI, 40, .inl pb)), (qc, .inl (cI, 40, .inl po))]) := by
  refine zm (by decide) (Nat.le_of_ble_eq_true rfl) ?_
  intro p e s m args below meth c R Q hR hQ hargs hx hb hml hr hlocks hnm hB hown hP hK hD0 ls hl
  have hown : s.vm.findClass "TorsionDeskModel" = some m.cls := hown
  have hl : lv_has ls 1 [(0, .ref qm)] := hl
  obtain ⟨A, hA⟩ : ∃ A, A = zIn [(qm, .inr (4, [.int mt, .int mh, .int ma, .int mc, .long m1, .long m2, .long m3, .long m4, .int mp, .ref qa, .ref qb, .ref qc, .int mz, .int mw, .long mx, .long my, .int mr, .int ml, .int mf, .int ms])), (qa, .inl (cI, 40, .inl pa)), (qb, .inl (cI, 40, .inl pb)), (qc, .inl (cI, 40, .inl po))] := ⟨_, rfl⟩
  have hD : va_D A [(qm, .inr (4, [.int mt, .int mh, .int ma, .int mc, .long m1, .long m2, .long m3, .long m4, .int mp, .ref qa, .ref qb, .ref qc, .int mz, .int mw, .long mx, .long my, .int mr, .int ml, .int mf, .int ms])), (qa, .inl (cI, 40, .inl pa)), (qb, .inl (cI, 40, .inl pb)), (qc, .inl (cI, 40, .inl po))] := by rw [hA]; exact zIn_self hD0
  have hS : va_S A s.heap s.heap [] := va_S.rf
  rw [← hA] at hQ
  have main : ∀ (H : Heap) (locs : List Loc), va_P D vwCl [(qm, .inr (4, [.int mt, .int mh, .int ma, .int mc, .long m1, .long m2, .long m3, .long m4, .int mp, .ref qa, .ref qb, .ref qc, .int mz, .int mw, .long mx, .long my, .int mr, .int ml, .int mf, .int ms])), (qa, .inl (cI, 40, .inl pa)), (qb, .inl (cI, 40, .inl pb)), (qc, .inl (cI, 40, .inl po))] H → va_D A [(qm, .inr (4, [.int mt, .int mh, .int ma, .int mc, .long m1, .long m2, .long m3, .long m4, .int mp, .ref qa, .ref qb, .ref qc, .int mz, .int mw, .long mx, .long my, .int mr, .int ml, .int mf, .int ms])), (qa, .inl (cI, 40, .inl pa)), (qb, .inl (cI, 40, .inl pb)), (qc, .inl (cI, 40, .inl po))] → va_S A s.heap H locs → W p l e R s m args below meth c H locs 0 0 Q (F0 m 0 ls []) := by
    intro H locs hP hD hS
    rw [a_md_discriminant] at hm
    refine lv_aload_n (pc := 0) hx hb d_md_discriminant_0 rfl (lv_at hl 0 rfl) ?_
    refine lv_iconst (pc := 1) (v := (0 : Int32)) hx hb d_md_discriminant_1 (by decide) ?_
    refine va_put (pc := 2) (D := D) (ci := 4) (v := .int (0 : Int32)) (ty := .int) (C := "TorsionDeskModel") (T := tX4) (N := 20) hx hb hB lX4 yX4 yX4_ok nX4 hown hK hP hD hS 0 rfl rfl 0 (by decide) (hB _ zw_417) (fun _ h9 => h9) rfl (by decide +kernel) rfl rfl (Nat.le_of_ble_eq_true rfl) d_md_discriminant_2 (fun H locs hP hD hS => ?_)
    have hP : va_P D vwCl [(qm, .inr (4, [.int (0 : Int32), .int mh, .int ma, .int mc, .long m1, .long m2, .long m3, .long m4, .int mp, .ref qa, .ref qb, .ref qc, .int mz, .int mw, .long mx, .long my, .int mr, .int ml, .int mf, .int ms])), (qa, .inl (cI, 40, .inl pa)), (qb, .inl (cI, 40, .inl pb)), (qc, .inl (cI, 40, .inl po))] H := hP
    have hD : va_D A [(qm, .inr (4, [.int (0 : Int32), .int mh, .int ma, .int mc, .long m1, .long m2, .long m3, .long m4, .int mp, .ref qa, .ref qb, .ref qc, .int mz, .int mw, .long mx, .long my, .int mr, .int ml, .int mf, .int ms])), (qa, .inl (cI, 40, .inl pa)), (qb, .inl (cI, 40, .inl pb)), (qc, .inl (cI, 40, .inl po))] := hD
    refine lv_aload_n (pc := 5) hx hb d_md_discriminant_5 rfl (lv_at hl 0 rfl) ?_
    refine va_get (pc := 6) (D := D) (ci := 4) (v := .int mh) (C := "TorsionDeskModel") (T := tX4) (N := 20) hx hb hB lX4 hown hK hP 0 rfl rfl 1 (by decide) (hB _ zw_418) (fun _ h9 => h9) rfl d_md_discriminant_6 ?_
    refine lv_if_eq (pc := 9) (tgt := 19) hx hb d_md_discriminant_9 rfl (fun h1 => ?_) (fun h1 => ?_)
    · rw [if_pos h1] at hm
      refine lv_lconst (pc := 19) (v := (0 : Int64)) hx hb d_md_discriminant_19 (by decide) ?_
      cases hm
      rw [hQ]
      exact W.lret (pc := 20) hx hb hr (fun t ht _ => ⟨rfl, by rw [ht]; exact hP, hS.F ht⟩) hS.2.2 d_md_discriminant_20
    rw [if_neg h1] at hm
    refine lv_aload_n (pc := 12) hx hb d_md_discriminant_12 rfl (lv_at hl 0 rfl) ?_
    refine va_get (pc := 13) (D := D) (ci := 4) (v := .long m4) (C := "TorsionDeskModel") (T := tX4) (N := 20) hx hb hB lX4 hown hK hP 0 rfl rfl 7 (by decide) (hB _ zw_424) (fun _ h9 => h9) rfl d_md_discriminant_13 ?_
    refine lv_goto (pc := 16) (tgt := 20) hx hb d_md_discriminant_16 rfl ?_
    cases hm
    rw [hQ]
    exact W.lret (pc := 20) hx hb hr (fun t ht _ => ⟨rfl, by rw [ht]; exact hP, hS.F ht⟩) hS.2.2 d_md_discriminant_20
  exact main s.heap [] hP hD hS
abbrev rm_md_candidate : Room := { frames := 0, cells := 0, slots := 0, locals := 0 }
def a_md_candidate_L47 (m4 : Int64) : Nat → Int64 → Int64 → Int32 → Option (Int32 × Int32)
  | 0, _, _, _ => none
  | n + 1, x3_47, x5_47, x2_47 => (if x3_47 < (x5_47 * x5_47) then (some ((-1 : Int32), (0 : Int32))) else (if (x5_47 * x5_47) = 0 then none else (if (m4 - m4 / (x5_47 * x5_47) * (x5_47 * x5_47)) = (0 : Int64) then (if x2_47 = 0 then (some (x5_47.toInt32, (0 : Int32))) else a_md_candidate_L47 m4 n x3_47 (x5_47 + (1 : Int64)) (x2_47 + (-1 : Int32))) else a_md_candidate_L47 m4 n x3_47 (x5_47 + (1 : Int64)) x2_47)))
def a_md_candidate (N : Nat) (mh : Int32) (m4 : Int64) (i1 : Int32) : Option (Int32 × Int32) := (if mh = 0 then a_md_candidate_L47 m4 N (0 : Int64) (1 : Int64) i1 else (if i1 < 0 then a_md_candidate_L47 m4 N (0 : Int64) (1 : Int64) i1 else (if (0 : Int64) ≤ m4 then a_md_candidate_L47 m4 N m4 (1 : Int64) i1 else a_md_candidate_L47 m4 N (-m4) (1 : Int64) i1)))
set_option maxHeartbeats 4000000 in
set_option maxRecDepth 100000 in
theorem w_a_md_candidate (l : Launch) (D : va_G) (cI cJ : ClassId) (qm : Nat) (qa : Nat) (qb : Nat) (qc : Nat) (mt : Int32) (mh : Int32) (ma : Int32) (mc : Int32) (mp : Int32) (mz : Int32) (mw : Int32) (mr : Int32) (ml : Int32) (mf : Int32) (ms : Int32) (m1 : Int64) (m2 : Int64) (m3 : Int64) (m4 : Int64) (mx : Int64) (my : Int64) (pa : Nat → Int32) (pb : Nat → Int32) (po : Nat → Int32) (i1 : Int32) (N : Nat) (r0 : Int32) (r1 : Int32) (hm : a_md_candidate N mh m4 i1 = some (r0, r1)) : Met l y_md_candidate zs_md_candidate rm_md_candidate (zPc [.ref qm, .int i1] D [(qm, .inr (4, [.int mt, .int mh, .int ma, .int mc, .long m1, .long m2, .long m3, .long m4, .int mp, .ref qa, .ref qb, .ref qc, .int mz, .int mw, .long mx, .long my, .int mr, .int ml, .int mf, .int ms])), (qa, .inl (cI, 40, .inl pa)), (qb, .inl (cI, 40, .inl pb)), (qc, .inl (cI, 40, .inl po))] [(cI, .int), (cJ, .long)]) (zWr (some (.int r0)) D (zIn [(qm, .inr (4, [.int mt, .int mh, .int ma, .int mc, .long m1, .long m2, .long m3, .long m4, .int mp, .ref qa, .ref qb, .ref qc, .int mz, .int mw, .long mx, .long my, .int mr, .int ml, .int mf, .int ms])), (qa, .inl (cI, 40, .inl pa)), (qb, .inl (cI, 40, .inl pb)), (qc, .inl (cI, 40, .inl po))]) [(qm, .inr (4, [.int r1, .int mh, .int ma, .int mc, .long m1, .long m2, .long m3, .long m4, .int mp, .ref qa, .ref qb, .ref qc, .int mz, .int mw, .long mx, .long my, .int mr, .int ml, .int mf, .int ms])), (qa, .inl (cI, 40, .inl pa)), (qb, .inl (cI, 40, .inl pb)), (qc, .inl (cI, 40, .inl po))]) 0 0 (zIn [(qm, .inr (4, [.int mt, .int mh, .int ma, .int mc, .long m1, .long m2, .long m3, .long m4, .int mp, .ref qa, .ref qb, .ref qc, .int mz, .int mw, .long mx, .long my, .int mr, .int ml, .int mf, .int ms])), (qa, .inl (cI, 40, .inl pa)), (qb, .inl (cI, 40, .inl pb)), (qc, .inl (cI, 40, .inl po))]) := by
  refine zm (by decide) (Nat.le_of_ble_eq_true rfl) ?_
  intro p e s m args below meth c R Q hR hQ hargs hx hb hml hr hlocks hnm hB hown hP hK hD0 ls hl
  have hown : s.vm.findClass "TorsionDeskModel" = some m.cls := hown
  have hl : lv_has ls 7 [(0, .ref qm), (1, .int i1)] := hl
  obtain ⟨A, hA⟩ : ∃ A, A = zIn [(qm, .inr (4, [.int mt, .int mh, .int ma, .int mc, .long m1, .long m2, .long m3, .long m4, .int mp, .ref qa, .ref qb, .ref qc, .int mz, .int mw, .long mx, .long my, .int mr, .int ml, .int mf, .int ms])), (qa, .inl (cI, 40, .inl pa)), (qb, .inl (cI, 40, .inl pb)), (qc, .inl (cI, 40, .inl po))] := ⟨_, rfl⟩
  have hD : va_D A [(qm, .inr (4, [.int mt, .int mh, .int ma, .int mc, .long m1, .long m2, .long m3, .long m4, .int mp, .ref qa, .ref qb, .ref qc, .int mz, .int mw, .long mx, .long my, .int mr, .int ml, .int mf, .int ms])), (qa, .inl (cI, 40, .inl pa)), (qb, .inl (cI, 40, .inl pb)), (qc, .inl (cI, 40, .inl po))] := by rw [hA]; exact zIn_self hD0
  have hS : va_S A s.heap s.heap [] := va_S.rf
  rw [← hA] at hQ
  have k47 : ∀ (n : Nat) (x3_47 : Int64) (x5_47 : Int64) (x2_47 : Int32) (H : Heap) (locs : List Loc) (ls : Array Slot), lv_has ls 7 [(0, .ref qm), (2, .int x2_47), (3, .long x3_47), (5, .long x5_47)] → va_P D vwCl [(qm, .inr (4, [.int (0 : Int32), .int mh, .int ma, .int mc, .long m1, .long m2, .long m3, .long m4, .int mp, .ref qa, .ref qb, .ref qc, .int mz, .int mw, .long mx, .long my, .int mr, .int ml, .int mf, .int ms])), (qa, .inl (cI, 40, .inl pa)), (qb, .inl (cI, 40, .inl pb)), (qc, .inl (cI, 40, .inl po))] H → va_D A [(qm, .inr (4, [.int (0 : Int32), .int mh, .int ma, .int mc, .long m1, .long m2, .long m3, .long m4, .int mp, .ref qa, .ref qb, .ref qc, .int mz, .int mw, .long mx, .long my, .int mr, .int ml, .int mf, .int ms])), (qa, .inl (cI, 40, .inl pa)), (qb, .inl (cI, 40, .inl pb)), (qc, .inl (cI, 40, .inl po))] → va_S A s.heap H locs → a_md_candidate_L47 m4 n x3_47 x5_47 x2_47 = some (r0, r1) → W p l e R s m args below meth c H locs 0 0 Q (F0 m 47 ls []) := by
    intro n
    induction n with
    | zero => intro x3_47 x5_47 x2_47  H locs ls hl hP hD hS hm; rw [a_md_candidate_L47] at hm; cases hm
    | succ n ih =>
      intro x3_47 x5_47 x2_47  H locs ls hl hP hD hS hm
      rw [a_md_candidate_L47] at hm
      refine lv_lload (pc := 47) hx hb d_md_candidate_47 (lv_at hl 3 rfl) ?_
      refine lv_lload (pc := 49) hx hb d_md_candidate_49 (lv_at hl 3 rfl) ?_
      refine lv_lmul (pc := 51) hx hb d_md_candidate_51 ?_
      refine lv_lload_n (pc := 52) hx hb d_md_candidate_52 rfl (lv_at hl 2 rfl) ?_
      refine zl_gt (pc := 53) (tgt := 92) hx hb d_md_candidate_53 d_md_candidate_54 rfl (fun h1 => ?_) (fun h1 => ?_)
      · rw [if_pos h1] at hm
        refine lv_iconst (pc := 92) (v := (-1 : Int32)) hx hb d_md_candidate_92 (by decide) ?_
        cases hm
        rw [hQ]
        exact W.iret (pc := 93) hx hb hr (fun t ht _ => ⟨rfl, by rw [ht]; exact hP, hS.F ht⟩) hS.2.2 d_md_candidate_93
      rw [if_neg h1] at hm
      refine lv_aload_n (pc := 57) hx hb d_md_candidate_57 rfl (lv_at hl 0 rfl) ?_
      refine va_get (pc := 58) (D := D) (ci := 4) (v := .long m4) (C := "TorsionDeskModel") (T := tX4) (N := 20) hx hb hB lX4 hown hK hP 0 rfl rfl 7 (by decide) (hB _ zw_424) (fun _ h9 => h9) rfl d_md_candidate_58 ?_
      refine lv_lload (pc := 61) hx hb d_md_candidate_61 (lv_at hl 3 rfl) ?_
      refine lv_lload (pc := 63) hx hb d_md_candidate_63 (lv_at hl 3 rfl) ?_
      refine lv_lmul (pc := 65) hx hb d_md_candidate_65 ?_
      by_cases g2 : (x5_47 * x5_47) = 0
      · rw [if_pos g2] at hm; cases hm
      rw [if_neg g2] at hm
      refine lv_lrem (pc := 66) hx hb d_md_candidate_66 g2 ?_
      refine lv_lconst (pc := 67) (v := (0 : Int64)) hx hb d_md_candidate_67 (by decide) ?_
      refine zl_ne (pc := 68) (tgt := 83) hx hb d_md_candidate_68 d_md_candidate_69 rfl (fun h3 => ?_) (fun h3 => ?_)
      · rw [if_neg h3] at hm
        refine lv_lload (pc := 83) hx hb d_md_candidate_83 (lv_at hl 3 rfl) ?_
        refine lv_lconst (pc := 85) (v := (1 : Int64)) hx hb d_md_candidate_85 (by decide) ?_
        refine lv_ladd (pc := 86) hx hb d_md_candidate_86 ?_
        refine lv_lstore (pc := 87) (lv' := [(5, .long (x5_47 + (1 : Int64))), (0, .ref qm), (2, .int x2_47), (3, .long x3_47)]) hx hb d_md_candidate_87 hl (Nat.le_of_ble_eq_true rfl) rfl (fun ls hl => ?_)
        refine lv_goto (pc := 89) (tgt := 47) hx hb d_md_candidate_89 rfl ?_
        exact ih x3_47 (x5_47 + (1 : Int64)) x2_47 H locs ls (lv_sub hl [1, 2, 3, 0] rfl) hP hD hS hm
      rw [if_pos h3] at hm
      refine lv_iload_n (pc := 72) hx hb d_md_candidate_72 rfl (lv_at hl 1 rfl) ?_
      refine lv_if_ne (pc := 73) (tgt := 80) hx hb d_md_candidate_73 rfl (fun h4 => ?_) (fun h4 => ?_)
      · rw [if_neg h4] at hm
        refine lv_iinc (pc := 80) (k := 1) (v := x2_47 + (-1 : Int32)) (lv' := [(2, .int (x2_47 + (-1 : Int32))), (0, .ref qm), (3, .long x3_47), (5, .long x5_47)]) hx hb d_md_candidate_80 hl rfl (congrArg (x2_47 + ·) (by decide)) (Nat.le_of_ble_eq_true rfl) rfl (fun ls hl => ?_)
        refine lv_lload (pc := 83) hx hb d_md_candidate_83 (lv_at hl 3 rfl) ?_
        refine lv_lconst (pc := 85) (v := (1 : Int64)) hx hb d_md_candidate_85 (by decide) ?_
        refine lv_ladd (pc := 86) hx hb d_md_candidate_86 ?_
        refine lv_lstore (pc := 87) (lv' := [(5, .long (x5_47 + (1 : Int64))), (2, .int (x2_47 + (-1 : Int32))), (0, .ref qm), (3, .long x3_47)]) hx hb d_md_candidate_87 hl (Nat.le_of_ble_eq_true rfl) rfl (fun ls hl => ?_)
        refine lv_goto (pc := 89) (tgt := 47) hx hb d_md_candidate_89 rfl ?_
        exact ih x3_47 (x5_47 + (1 : Int64)) (x2_47 + (-1 : Int32)) H locs ls (lv_sub hl [2, 1, 3, 0] rfl) hP hD hS hm
      rw [if_pos h4] at hm
      refine lv_lload (pc := 76) hx hb d_md_candidate_76 (lv_at hl 3 rfl) ?_
      refine lv_l2i (pc := 78) hx hb d_md_candidate_78 rfl ?_
      cases hm
      rw [hQ]
      exact W.iret (pc := 79) hx hb hr (fun t ht _ => ⟨rfl, by rw [ht]; exact hP, hS.F ht⟩) hS.2.2 d_md_candidate_79
  have main : ∀ (H : Heap) (locs : List Loc), va_P D vwCl [(qm, .inr (4, [.int mt, .int mh, .int ma, .int mc, .long m1, .long m2, .long m3, .long m4, .int mp, .ref qa, .ref qb, .ref qc, .int mz, .int mw, .long mx, .long my, .int mr, .int ml, .int mf, .int ms])), (qa, .inl (cI, 40, .inl pa)), (qb, .inl (cI, 40, .inl pb)), (qc, .inl (cI, 40, .inl po))] H → va_D A [(qm, .inr (4, [.int mt, .int mh, .int ma, .int mc, .long m1, .long m2, .long m3, .long m4, .int mp, .ref qa, .ref qb, .ref qc, .int mz, .int mw, .long mx, .long my, .int mr, .int ml, .int mf, .int ms])), (qa, .inl (cI, 40, .inl pa)), (qb, .inl (cI, 40, .inl pb)), (qc, .inl (cI, 40, .inl po))] → va_S A s.heap H locs → W p l e R s m args below meth c H locs 0 0 Q (F0 m 0 ls []) := by
    intro H locs hP hD hS
    rw [a_md_candidate] at hm
    refine lv_aload_n (pc := 0) hx hb d_md_candidate_0 rfl (lv_at hl 0 rfl) ?_
    refine lv_iconst (pc := 1) (v := (0 : Int32)) hx hb d_md_candidate_1 (by decide) ?_
    refine va_put (pc := 2) (D := D) (ci := 4) (v := .int (0 : Int32)) (ty := .int) (C := "TorsionDeskModel") (T := tX4) (N := 20) hx hb hB lX4 yX4 yX4_ok nX4 hown hK hP hD hS 0 rfl rfl 0 (by decide) (hB _ zw_417) (fun _ h9 => h9) rfl (by decide +kernel) rfl rfl (Nat.le_of_ble_eq_true rfl) d_md_candidate_2 (fun H locs hP hD hS => ?_)
    have hP : va_P D vwCl [(qm, .inr (4, [.int (0 : Int32), .int mh, .int ma, .int mc, .long m1, .long m2, .long m3, .long m4, .int mp, .ref qa, .ref qb, .ref qc, .int mz, .int mw, .long mx, .long my, .int mr, .int ml, .int mf, .int ms])), (qa, .inl (cI, 40, .inl pa)), (qb, .inl (cI, 40, .inl pb)), (qc, .inl (cI, 40, .inl po))] H := hP
    have hD : va_D A [(qm, .inr (4, [.int (0 : Int32), .int mh, .int ma, .int mc, .long m1, .long m2, .long m3, .long m4, .int mp, .ref qa, .ref qb, .ref qc, .int mz, .int mw, .long mx, .long my, .int mr, .int ml, .int mf, .int ms])), (qa, .inl (cI, 40, .inl pa)), (qb, .inl (cI, 40, .inl pb)), (qc, .inl (cI, 40, .inl po))] := hD
    refine lv_iload_n (pc := 5) hx hb d_md_candidate_5 rfl (lv_at hl 1 rfl) ?_
    refine lv_istore_n (pc := 6) (lv' := [(2, .int i1), (0, .ref qm), (1, .int i1)]) hx hb d_md_candidate_6 rfl hl (Nat.le_of_ble_eq_true rfl) rfl (fun ls hl => ?_)
    refine lv_aload_n (pc := 7) hx hb d_md_candidate_7 rfl (lv_at hl 1 rfl) ?_
    refine va_get (pc := 8) (D := D) (ci := 4) (v := .int mh) (C := "TorsionDeskModel") (T := tX4) (N := 20) hx hb hB lX4 hown hK hP 0 rfl rfl 1 (by decide) (hB _ zw_418) (fun _ h9 => h9) rfl d_md_candidate_8 ?_
    refine lv_if_eq (pc := 11) (tgt := 42) hx hb d_md_candidate_11 rfl (fun h1 => ?_) (fun h1 => ?_)
    · rw [if_pos h1] at hm
      refine lv_lconst (pc := 42) (v := (0 : Int64)) hx hb d_md_candidate_42 (by decide) ?_
      refine lv_lstore_n (pc := 43) (lv' := [(3, .long (0 : Int64)), (2, .int i1), (0, .ref qm), (1, .int i1)]) hx hb d_md_candidate_43 rfl hl (Nat.le_of_ble_eq_true rfl) rfl (fun ls hl => ?_)
      refine lv_lconst (pc := 44) (v := (1 : Int64)) hx hb d_md_candidate_44 (by decide) ?_
      refine lv_lstore (pc := 45) (lv' := [(5, .long (1 : Int64)), (3, .long (0 : Int64)), (2, .int i1), (0, .ref qm), (1, .int i1)]) hx hb d_md_candidate_45 hl (Nat.le_of_ble_eq_true rfl) rfl (fun ls hl => ?_)
      exact k47 N (0 : Int64) (1 : Int64) i1 H locs ls (lv_sub hl [3, 2, 1, 0] rfl) hP hD hS hm
    rw [if_neg h1] at hm
    refine lv_iload_n (pc := 14) hx hb d_md_candidate_14 rfl (lv_at hl 2 rfl) ?_
    refine lv_if_lt (pc := 15) (tgt := 42) hx hb d_md_candidate_15 rfl (fun h2 => ?_) (fun h2 => ?_)
    · rw [if_pos h2] at hm
      refine lv_lconst (pc := 42) (v := (0 : Int64)) hx hb d_md_candidate_42 (by decide) ?_
      refine lv_lstore_n (pc := 43) (lv' := [(3, .long (0 : Int64)), (2, .int i1), (0, .ref qm), (1, .int i1)]) hx hb d_md_candidate_43 rfl hl (Nat.le_of_ble_eq_true rfl) rfl (fun ls hl => ?_)
      refine lv_lconst (pc := 44) (v := (1 : Int64)) hx hb d_md_candidate_44 (by decide) ?_
      refine lv_lstore (pc := 45) (lv' := [(5, .long (1 : Int64)), (3, .long (0 : Int64)), (2, .int i1), (0, .ref qm), (1, .int i1)]) hx hb d_md_candidate_45 hl (Nat.le_of_ble_eq_true rfl) rfl (fun ls hl => ?_)
      exact k47 N (0 : Int64) (1 : Int64) i1 H locs ls (lv_sub hl [3, 2, 1, 0] rfl) hP hD hS hm
    rw [if_neg h2] at hm
    refine lv_aload_n (pc := 18) hx hb d_md_candidate_18 rfl (lv_at hl 1 rfl) ?_
    refine va_get (pc := 19) (D := D) (ci := 4) (v := .long m4) (C := "TorsionDeskModel") (T := tX4) (N := 20) hx hb hB lX4 hown hK hP 0 rfl rfl 7 (by decide) (hB _ zw_424) (fun _ h9 => h9) rfl d_md_candidate_19 ?_
    refine lv_lconst (pc := 22) (v := (0 : Int64)) hx hb d_md_candidate_22 (by decide) ?_
    refine zl_ge (pc := 23) (tgt := 35) hx hb d_md_candidate_23 d_md_candidate_24 rfl (fun h3 => ?_) (fun h3 => ?_)
    · rw [if_pos h3] at hm
      refine lv_aload_n (pc := 35) hx hb d_md_candidate_35 rfl (lv_at hl 1 rfl) ?_
      refine va_get (pc := 36) (D := D) (ci := 4) (v := .long m4) (C := "TorsionDeskModel") (T := tX4) (N := 20) hx hb hB lX4 hown hK hP 0 rfl rfl 7 (by decide) (hB _ zw_424) (fun _ h9 => h9) rfl d_md_candidate_36 ?_
      refine lv_goto (pc := 39) (tgt := 43) hx hb d_md_candidate_39 rfl ?_
      refine lv_lstore_n (pc := 43) (lv' := [(3, .long m4), (2, .int i1), (0, .ref qm), (1, .int i1)]) hx hb d_md_candidate_43 rfl hl (Nat.le_of_ble_eq_true rfl) rfl (fun ls hl => ?_)
      refine lv_lconst (pc := 44) (v := (1 : Int64)) hx hb d_md_candidate_44 (by decide) ?_
      refine lv_lstore (pc := 45) (lv' := [(5, .long (1 : Int64)), (3, .long m4), (2, .int i1), (0, .ref qm), (1, .int i1)]) hx hb d_md_candidate_45 hl (Nat.le_of_ble_eq_true rfl) rfl (fun ls hl => ?_)
      exact k47 N m4 (1 : Int64) i1 H locs ls (lv_sub hl [3, 2, 1, 0] rfl) hP hD hS hm
    rw [if_neg h3] at hm
    refine lv_aload_n (pc := 27) hx hb d_md_candidate_27 rfl (lv_at hl 1 rfl) ?_
    refine va_get (pc := 28) (D := D) (ci := 4) (v := .long m4) (C := "TorsionDeskModel") (T := tX4) (N := 20) hx hb hB lX4 hown hK hP 0 rfl rfl 7 (by decide) (hB _ zw_424) (fun _ h9 => h9) rfl d_md_candidate_28 ?_
    refine lv_lneg (pc := 31) hx hb d_md_candidate_31 ?_
    refine lv_goto (pc := 32) (tgt := 43) hx hb d_md_candidate_32 rfl ?_
    refine lv_lstore_n (pc := 43) (lv' := [(3, .long (-m4)), (2, .int i1), (0, .ref qm), (1, .int i1)]) hx hb d_md_candidate_43 rfl hl (Nat.le_of_ble_eq_true rfl) rfl (fun ls hl => ?_)
    refine lv_lconst (pc := 44) (v := (1 : Int64)) hx hb d_md_candidate_44 (by decide) ?_
    refine lv_lstore (pc := 45) (lv' := [(5, .long (1 : Int64)), (3, .long (-m4)), (2, .int i1), (0, .ref qm), (1, .int i1)]) hx hb d_md_candidate_45 hl (Nat.le_of_ble_eq_true rfl) rfl (fun ls hl => ?_)
    exact k47 N (-m4) (1 : Int64) i1 H locs ls (lv_sub hl [3, 2, 1, 0] rfl) hP hD hS hm
  exact main s.heap [] hP hD hS
abbrev rm_md_points : Room := { frames := 0, cells := 0, slots := 0, locals := 0 }
def a_md_points (mh : Int32) (mp : Int32) : Option (Int32 × Int32) := (if mh = 0 then (some ((0 : Int32), (0 : Int32))) else (some (mp, (0 : Int32))))
set_option maxHeartbeats 4000000 in
set_option maxRecDepth 100000 in
theorem w_a_md_points (l : Launch) (D : va_G) (cI cJ : ClassId) (qm : Nat) (qa : Nat) (qb : Nat) (qc : Nat) (mt : Int32) (mh : Int32) (ma : Int32) (mc : Int32) (mp : Int32) (mz : Int32) (mw : Int32) (mr : Int32) (ml : Int32) (mf : Int32) (ms : Int32) (m1 : Int64) (m2 : Int64) (m3 : Int64) (m4 : Int64) (mx : Int64) (my : Int64) (pa : Nat → Int32) (pb : Nat → Int32) (po : Nat → Int32) (r0 : Int32) (r1 : Int32) (hm : a_md_points mh mp = some (r0, r1)) : Met l y_md_points zs_md_points rm_md_points (zPc [.ref qm] D [(qm, .inr (4, [.int mt, .int mh, .int ma, .int mc, .long m1, .long m2, .long m3, .long m4, .int mp, .ref qa, .ref qb, .ref qc, .int mz, .int mw, .long mx, .long my, .int mr, .int ml, .int mf, .int ms])), (qa, .inl (cI, 40, .inl pa)), (qb, .inl (cI, 40, .inl pb)), (qc, .inl (cI, 40, .inl po))] [(cI, .int), (cJ, .long)]) (zWr (some (.int r0)) D (zIn [(qm, .inr (4, [.int mt, .int mh, .int ma, .int mc, .long m1, .long m2, .long m3, .long m4, .int mp, .ref qa, .ref qb, .ref qc, .int mz, .int mw, .long mx, .long my, .int mr, .int ml, .int mf, .int ms])), (qa, .inl (cI, 40, .inl pa)), (qb, .inl (cI, 40, .inl pb)), (qc, .inl (cI, 40, .inl po))]) [(qm, .inr (4, [.int r1, .int mh, .int ma, .int mc, .long m1, .long m2, .long m3, .long m4, .int mp, .ref qa, .ref qb, .ref qc, .int mz, .int mw, .long mx, .long my, .int mr, .int ml, .int mf, .int ms])), (qa, .inl (cI, 40, .inl pa)), (qb, .inl (cI, 40, .inl pb)), (qc, .inl (cI, 40, .inl po))]) 0 0 (zIn [(qm, .inr (4, [.int mt, .int mh, .int ma, .int mc, .long m1, .long m2, .long m3, .long m4, .int mp, .ref qa, .ref qb, .ref qc, .int mz, .int mw, .long mx, .long my, .int mr, .int ml, .int mf, .int ms])), (qa, .inl (cI, 40, .inl pa)), (qb, .inl (cI, 40, .inl pb)), (qc, .inl (cI, 40, .inl po))]) := by
  refine zm (by decide) (Nat.le_of_ble_eq_true rfl) ?_
  intro p e s m args below meth c R Q hR hQ hargs hx hb hml hr hlocks hnm hB hown hP hK hD0 ls hl
  have hown : s.vm.findClass "TorsionDeskModel" = some m.cls := hown
  have hl : lv_has ls 1 [(0, .ref qm)] := hl
  obtain ⟨A, hA⟩ : ∃ A, A = zIn [(qm, .inr (4, [.int mt, .int mh, .int ma, .int mc, .long m1, .long m2, .long m3, .long m4, .int mp, .ref qa, .ref qb, .ref qc, .int mz, .int mw, .long mx, .long my, .int mr, .int ml, .int mf, .int ms])), (qa, .inl (cI, 40, .inl pa)), (qb, .inl (cI, 40, .inl pb)), (qc, .inl (cI, 40, .inl po))] := ⟨_, rfl⟩
  have hD : va_D A [(qm, .inr (4, [.int mt, .int mh, .int ma, .int mc, .long m1, .long m2, .long m3, .long m4, .int mp, .ref qa, .ref qb, .ref qc, .int mz, .int mw, .long mx, .long my, .int mr, .int ml, .int mf, .int ms])), (qa, .inl (cI, 40, .inl pa)), (qb, .inl (cI, 40, .inl pb)), (qc, .inl (cI, 40, .inl po))] := by rw [hA]; exact zIn_self hD0
  have hS : va_S A s.heap s.heap [] := va_S.rf
  rw [← hA] at hQ
  have main : ∀ (H : Heap) (locs : List Loc), va_P D vwCl [(qm, .inr (4, [.int mt, .int mh, .int ma, .int mc, .long m1, .long m2, .long m3, .long m4, .int mp, .ref qa, .ref qb, .ref qc, .int mz, .int mw, .long mx, .long my, .int mr, .int ml, .int mf, .int ms])), (qa, .inl (cI, 40, .inl pa)), (qb, .inl (cI, 40, .inl pb)), (qc, .inl (cI, 40, .inl po))] H → va_D A [(qm, .inr (4, [.int mt, .int mh, .int ma, .int mc, .long m1, .long m2, .long m3, .long m4, .int mp, .ref qa, .ref qb, .ref qc, .int mz, .int mw, .long mx, .long my, .int mr, .int ml, .int mf, .int ms])), (qa, .inl (cI, 40, .inl pa)), (qb, .inl (cI, 40, .inl pb)), (qc, .inl (cI, 40, .inl po))] → va_S A s.heap H locs → W p l e R s m args below meth c H locs 0 0 Q (F0 m 0 ls []) := by
    intro H locs hP hD hS
    rw [a_md_points] at hm
    refine lv_aload_n (pc := 0) hx hb d_md_points_0 rfl (lv_at hl 0 rfl) ?_
    refine lv_iconst (pc := 1) (v := (0 : Int32)) hx hb d_md_points_1 (by decide) ?_
    refine va_put (pc := 2) (D := D) (ci := 4) (v := .int (0 : Int32)) (ty := .int) (C := "TorsionDeskModel") (T := tX4) (N := 20) hx hb hB lX4 yX4 yX4_ok nX4 hown hK hP hD hS 0 rfl rfl 0 (by decide) (hB _ zw_417) (fun _ h9 => h9) rfl (by decide +kernel) rfl rfl (Nat.le_of_ble_eq_true rfl) d_md_points_2 (fun H locs hP hD hS => ?_)
    have hP : va_P D vwCl [(qm, .inr (4, [.int (0 : Int32), .int mh, .int ma, .int mc, .long m1, .long m2, .long m3, .long m4, .int mp, .ref qa, .ref qb, .ref qc, .int mz, .int mw, .long mx, .long my, .int mr, .int ml, .int mf, .int ms])), (qa, .inl (cI, 40, .inl pa)), (qb, .inl (cI, 40, .inl pb)), (qc, .inl (cI, 40, .inl po))] H := hP
    have hD : va_D A [(qm, .inr (4, [.int (0 : Int32), .int mh, .int ma, .int mc, .long m1, .long m2, .long m3, .long m4, .int mp, .ref qa, .ref qb, .ref qc, .int mz, .int mw, .long mx, .long my, .int mr, .int ml, .int mf, .int ms])), (qa, .inl (cI, 40, .inl pa)), (qb, .inl (cI, 40, .inl pb)), (qc, .inl (cI, 40, .inl po))] := hD
    refine lv_aload_n (pc := 5) hx hb d_md_points_5 rfl (lv_at hl 0 rfl) ?_
    refine va_get (pc := 6) (D := D) (ci := 4) (v := .int mh) (C := "TorsionDeskModel") (T := tX4) (N := 20) hx hb hB lX4 hown hK hP 0 rfl rfl 1 (by decide) (hB _ zw_418) (fun _ h9 => h9) rfl d_md_points_6 ?_
    refine lv_if_eq (pc := 9) (tgt := 19) hx hb d_md_points_9 rfl (fun h1 => ?_) (fun h1 => ?_)
    · rw [if_pos h1] at hm
      refine lv_iconst (pc := 19) (v := (0 : Int32)) hx hb d_md_points_19 (by decide) ?_
      cases hm
      rw [hQ]
      exact W.iret (pc := 20) hx hb hr (fun t ht _ => ⟨rfl, by rw [ht]; exact hP, hS.F ht⟩) hS.2.2 d_md_points_20
    rw [if_neg h1] at hm
    refine lv_aload_n (pc := 12) hx hb d_md_points_12 rfl (lv_at hl 0 rfl) ?_
    refine va_get (pc := 13) (D := D) (ci := 4) (v := .int mp) (C := "TorsionDeskModel") (T := tX4) (N := 20) hx hb hB lX4 hown hK hP 0 rfl rfl 8 (by decide) (hB _ zw_425) (fun _ h9 => h9) rfl d_md_points_13 ?_
    refine lv_goto (pc := 16) (tgt := 20) hx hb d_md_points_16 rfl ?_
    cases hm
    rw [hQ]
    exact W.iret (pc := 20) hx hb hr (fun t ht _ => ⟨rfl, by rw [ht]; exact hP, hS.F ht⟩) hS.2.2 d_md_points_20
  exact main s.heap [] hP hD hS
abbrev rm_md_isPoint : Room := { frames := 0, cells := 0, slots := 0, locals := 0 }
def a_md_isPoint (mh : Int32) (mp : Int32) (i1 : Int32) : Int32 := (if mh = 0 then (0 : Int32) else (if i1 < 0 then (0 : Int32) else (if mp ≤ i1 then (0 : Int32) else (1 : Int32))))
set_option maxHeartbeats 4000000 in
set_option maxRecDepth 100000 in
theorem w_a_md_isPoint (l : Launch) (D : va_G) (cI cJ : ClassId) (qm : Nat) (qa : Nat) (qb : Nat) (qc : Nat) (mt : Int32) (mh : Int32) (ma : Int32) (mc : Int32) (mp : Int32) (mz : Int32) (mw : Int32) (mr : Int32) (ml : Int32) (mf : Int32) (ms : Int32) (m1 : Int64) (m2 : Int64) (m3 : Int64) (m4 : Int64) (mx : Int64) (my : Int64) (pa : Nat → Int32) (pb : Nat → Int32) (po : Nat → Int32) (i1 : Int32) (r0 : Int32) (hm : a_md_isPoint mh mp i1 = r0) : Met l y_md_isPoint zs_md_isPoint rm_md_isPoint (zPc [.ref qm, .int i1] D [(qm, .inr (4, [.int mt, .int mh, .int ma, .int mc, .long m1, .long m2, .long m3, .long m4, .int mp, .ref qa, .ref qb, .ref qc, .int mz, .int mw, .long mx, .long my, .int mr, .int ml, .int mf, .int ms])), (qa, .inl (cI, 40, .inl pa)), (qb, .inl (cI, 40, .inl pb)), (qc, .inl (cI, 40, .inl po))] [(cI, .int), (cJ, .long)]) (zRd (some (.int r0))) 0 0 (fun _ => False) := by
  refine zm (by decide) (Nat.le_of_ble_eq_true rfl) ?_
  intro p e s m args below meth c R Q hR hQ hargs hx hb hml hr hlocks hnm hB hown hP hK hD0 ls hl
  have hown : s.vm.findClass "TorsionDeskModel" = some m.cls := hown
  have hl : lv_has ls 2 [(0, .ref qm), (1, .int i1)] := hl
  rw [a_md_isPoint] at hm
  refine lv_aload_n (pc := 0) hx hb d_md_isPoint_0 rfl (lv_at hl 0 rfl) ?_
  refine va_get (pc := 1) (D := D) (ci := 4) (v := .int mh) (C := "TorsionDeskModel") (T := tX4) (N := 20) hx hb hB lX4 hown hK hP 0 rfl rfl 1 (by decide) (hB _ zw_418) (fun _ h9 => h9) rfl d_md_isPoint_1 ?_
  refine lv_if_eq (pc := 4) (tgt := 23) hx hb d_md_isPoint_4 rfl (fun h1 => ?_) (fun h1 => ?_)
  · rw [if_pos h1] at hm
    refine lv_iconst (pc := 23) (v := (0 : Int32)) hx hb d_md_isPoint_23 (by decide) ?_
    subst hm
    rw [hQ]
    exact W.zret (pc := 24) hx hb hr rfl (fun t ht _ => ⟨rfl, ht⟩) (fun _ h9 => nomatch h9) d_md_isPoint_24
  rw [if_neg h1] at hm
  refine lv_iload_n (pc := 7) hx hb d_md_isPoint_7 rfl (lv_at hl 1 rfl) ?_
  refine lv_if_lt (pc := 8) (tgt := 23) hx hb d_md_isPoint_8 rfl (fun h2 => ?_) (fun h2 => ?_)
  · rw [if_pos h2] at hm
    refine lv_iconst (pc := 23) (v := (0 : Int32)) hx hb d_md_isPoint_23 (by decide) ?_
    subst hm
    rw [hQ]
    exact W.zret (pc := 24) hx hb hr rfl (fun t ht _ => ⟨rfl, ht⟩) (fun _ h9 => nomatch h9) d_md_isPoint_24
  rw [if_neg h2] at hm
  refine lv_iload_n (pc := 11) hx hb d_md_isPoint_11 rfl (lv_at hl 1 rfl) ?_
  refine lv_aload_n (pc := 12) hx hb d_md_isPoint_12 rfl (lv_at hl 0 rfl) ?_
  refine va_get (pc := 13) (D := D) (ci := 4) (v := .int mp) (C := "TorsionDeskModel") (T := tX4) (N := 20) hx hb hB lX4 hown hK hP 0 rfl rfl 8 (by decide) (hB _ zw_425) (fun _ h9 => h9) rfl d_md_isPoint_13 ?_
  refine lv_icmp_ge (pc := 16) (tgt := 23) hx hb d_md_isPoint_16 rfl (fun h3 => ?_) (fun h3 => ?_)
  · rw [if_pos h3] at hm
    refine lv_iconst (pc := 23) (v := (0 : Int32)) hx hb d_md_isPoint_23 (by decide) ?_
    subst hm
    rw [hQ]
    exact W.zret (pc := 24) hx hb hr rfl (fun t ht _ => ⟨rfl, ht⟩) (fun _ h9 => nomatch h9) d_md_isPoint_24
  rw [if_neg h3] at hm
  refine lv_iconst (pc := 19) (v := (1 : Int32)) hx hb d_md_isPoint_19 (by decide) ?_
  refine lv_goto (pc := 20) (tgt := 24) hx hb d_md_isPoint_20 rfl ?_
  subst hm
  rw [hQ]
  exact W.zret (pc := 24) hx hb hr rfl (fun t ht _ => ⟨rfl, ht⟩) (fun _ h9 => nomatch h9) d_md_isPoint_24
abbrev rm_md_common : Room := { frames := 0, cells := 0, slots := 0, locals := 0 }
def a_md_common_L13 : Nat → Int32 → Int32 → Option (Int32)
  | 0, _, _ => none
  | n + 1, x2_13, x3_13 => (if x3_13 ≤ 0 then (some x2_13) else (if x3_13 = 0 then none else a_md_common_L13  n x3_13 (x2_13 - x2_13 / x3_13 * x3_13)))
def a_md_common (N : Nat) (i1 : Int32) (i2 : Int32) : Option (Int32) := (if 0 ≤ i1 then a_md_common_L13  N i1 i2 else a_md_common_L13  N (-i1) i2)
set_option maxHeartbeats 4000000 in
set_option maxRecDepth 100000 in
theorem w_a_md_common (l : Launch) (D : va_G) (cI cJ : ClassId) (i1 : Int32) (i2 : Int32) (N : Nat) (r0 : Int32) (hm : a_md_common N i1 i2 = some r0) : Met l y_md_common zs_md_common rm_md_common (zPc [.int i1, .int i2] D [] [(cI, .int), (cJ, .long)]) (zRd (some (.int r0))) 0 0 (fun _ => False) := by
  refine zm (by decide) (Nat.le_of_ble_eq_true rfl) ?_
  intro p e s m args below meth c R Q hR hQ hargs hx hb hml hr hlocks hnm hB hown hP hK hD0 ls hl
  have hown : s.vm.findClass "TorsionDeskModel" = some m.cls := hown
  have hl : lv_has ls 5 [(0, .int i1), (1, .int i2)] := hl
  have k13 : ∀ (n : Nat) (x2_13 : Int32) (x3_13 : Int32) (ls : Array Slot), lv_has ls 5 [(2, .int x2_13), (3, .int x3_13)] → a_md_common_L13  n x2_13 x3_13 = some r0 → W p l e R s m args below meth c s.heap [] 0 0 Q (F0 m 13 ls []) := by
    intro n
    induction n with
    | zero => intro x2_13 x3_13  ls hl hm; rw [a_md_common_L13] at hm; cases hm
    | succ n ih =>
      intro x2_13 x3_13  ls hl hm
      rw [a_md_common_L13] at hm
      refine lv_iload_n (pc := 13) hx hb d_md_common_13 rfl (lv_at hl 1 rfl) ?_
      refine lv_if_le (pc := 14) (tgt := 30) hx hb d_md_common_14 rfl (fun h1 => ?_) (fun h1 => ?_)
      · rw [if_pos h1] at hm
        refine lv_iload_n (pc := 30) hx hb d_md_common_30 rfl (lv_at hl 0 rfl) ?_
        cases hm
        rw [hQ]
        exact W.iret (pc := 31) hx hb hr (fun t ht _ => ⟨rfl, ht⟩) (fun _ h9 => nomatch h9) d_md_common_31
      rw [if_neg h1] at hm
      refine lv_iload_n (pc := 17) hx hb d_md_common_17 rfl (lv_at hl 0 rfl) ?_
      refine lv_iload_n (pc := 18) hx hb d_md_common_18 rfl (lv_at hl 1 rfl) ?_
      by_cases g2 : x3_13 = 0
      · rw [if_pos g2] at hm; cases hm
      rw [if_neg g2] at hm
      refine lv_irem (pc := 19) hx hb d_md_common_19 g2 ?_
      refine lv_istore (pc := 20) (lv' := [(4, .int (x2_13 - x2_13 / x3_13 * x3_13)), (2, .int x2_13), (3, .int x3_13)]) hx hb d_md_common_20 hl (Nat.le_of_ble_eq_true rfl) rfl (fun ls hl => ?_)
      refine lv_iload_n (pc := 22) hx hb d_md_common_22 rfl (lv_at hl 2 rfl) ?_
      refine lv_istore_n (pc := 23) (lv' := [(2, .int x3_13), (4, .int (x2_13 - x2_13 / x3_13 * x3_13)), (3, .int x3_13)]) hx hb d_md_common_23 rfl hl (Nat.le_of_ble_eq_true rfl) rfl (fun ls hl => ?_)
      refine lv_iload (pc := 24) hx hb d_md_common_24 (lv_at hl 1 rfl) ?_
      refine lv_istore_n (pc := 26) (lv' := [(3, .int (x2_13 - x2_13 / x3_13 * x3_13)), (2, .int x3_13), (4, .int (x2_13 - x2_13 / x3_13 * x3_13))]) hx hb d_md_common_26 rfl hl (Nat.le_of_ble_eq_true rfl) rfl (fun ls hl => ?_)
      refine lv_goto (pc := 27) (tgt := 13) hx hb d_md_common_27 rfl ?_
      exact ih x3_13 (x2_13 - x2_13 / x3_13 * x3_13) ls (lv_sub hl [1, 0] rfl) hm
  rw [a_md_common] at hm
  refine lv_iload_n (pc := 0) hx hb d_md_common_0 rfl (lv_at hl 0 rfl) ?_
  refine lv_if_ge (pc := 1) (tgt := 9) hx hb d_md_common_1 rfl (fun h1 => ?_) (fun h1 => ?_)
  · rw [if_pos h1] at hm
    refine lv_iload_n (pc := 9) hx hb d_md_common_9 rfl (lv_at hl 0 rfl) ?_
    refine lv_istore_n (pc := 10) (lv' := [(2, .int i1), (0, .int i1), (1, .int i2)]) hx hb d_md_common_10 rfl hl (Nat.le_of_ble_eq_true rfl) rfl (fun ls hl => ?_)
    refine lv_iload_n (pc := 11) hx hb d_md_common_11 rfl (lv_at hl 2 rfl) ?_
    refine lv_istore_n (pc := 12) (lv' := [(3, .int i2), (2, .int i1), (0, .int i1), (1, .int i2)]) hx hb d_md_common_12 rfl hl (Nat.le_of_ble_eq_true rfl) rfl (fun ls hl => ?_)
    exact k13 N i1 i2 ls (lv_sub hl [1, 0] rfl) hm
  rw [if_neg h1] at hm
  refine lv_iload_n (pc := 4) hx hb d_md_common_4 rfl (lv_at hl 0 rfl) ?_
  refine lv_ineg (pc := 5) hx hb d_md_common_5 ?_
  refine lv_goto (pc := 6) (tgt := 10) hx hb d_md_common_6 rfl ?_
  refine lv_istore_n (pc := 10) (lv' := [(2, .int (-i1)), (0, .int i1), (1, .int i2)]) hx hb d_md_common_10 rfl hl (Nat.le_of_ble_eq_true rfl) rfl (fun ls hl => ?_)
  refine lv_iload_n (pc := 11) hx hb d_md_common_11 rfl (lv_at hl 2 rfl) ?_
  refine lv_istore_n (pc := 12) (lv' := [(3, .int i2), (2, .int (-i1)), (0, .int i1), (1, .int i2)]) hx hb d_md_common_12 rfl hl (Nat.le_of_ble_eq_true rfl) rfl (fun ls hl => ?_)
  exact k13 N (-i1) i2 ls (lv_sub hl [1, 0] rfl) hm
abbrev rm_md_point : Room := { frames := 1, cells := 0, slots := 0, locals := 24 }
def a_md_point (N : Nat) (mh : Int32) (ma : Int32) (mc : Int32) (mp : Int32) (pa : Nat → Int32) (pb : Nat → Int32) (po : Nat → Int32) (i1 : Int32) (i2 : Int32) : Option (Int32 × Int32) := (if (a_md_isPoint mh mp i1) = 0 then (some ((0 : Int32), (0 : Int32))) else (if i2 < 0 then (some ((0 : Int32), (0 : Int32))) else (if i2 ≤ (6 : Int32) then (if i2 = (2 : Int32) then (if (i1 < 0 ∨ 40 ≤ i1.toNatClampNeg) then none else (some (po i1.toNatClampNeg, (0 : Int32)))) else (if i1 = 0 then (some ((0 : Int32), (0 : Int32))) else (if (i1 < 0 ∨ 40 ≤ i1.toNatClampNeg) then none else (if i2 ≤ (4 : Int32) then (if i2 ≤ (4 : Int32) then (if i2 = 0 then (some (pa i1.toNatClampNeg, (0 : Int32))) else (if i2 = (1 : Int32) then (some (pb i1.toNatClampNeg, (0 : Int32))) else (if (i2 - i2 / (2 : Int32) * (2 : Int32)) = (1 : Int32) then ((a_md_common N (pa i1.toNatClampNeg) (4 : Int32)).bind (fun r_c139 => (if r_c139 = 0 then none else (some ((pa i1.toNatClampNeg) / r_c139, (0 : Int32)))))) else ((a_md_common N (pa i1.toNatClampNeg) (4 : Int32)).bind (fun r_c152 => (if r_c152 = 0 then none else (some ((4 : Int32) / r_c152, (0 : Int32))))))))) else (if i2 = 0 then (some (pa i1.toNatClampNeg, (0 : Int32))) else (if i2 = (1 : Int32) then (some (pb i1.toNatClampNeg, (0 : Int32))) else (if (i2 - i2 / (2 : Int32) * (2 : Int32)) = (1 : Int32) then ((a_md_common N (pa i1.toNatClampNeg) (8 : Int32)).bind (fun r_c139 => (if r_c139 = 0 then none else (some ((pa i1.toNatClampNeg) / r_c139, (0 : Int32)))))) else ((a_md_common N (pa i1.toNatClampNeg) (8 : Int32)).bind (fun r_c152 => (if r_c152 = 0 then none else (some ((8 : Int32) / r_c152, (0 : Int32)))))))))) else (if i2 ≤ (4 : Int32) then (if i2 = 0 then (some (pa i1.toNatClampNeg, (0 : Int32))) else (if i2 = (1 : Int32) then (some (pb i1.toNatClampNeg, (0 : Int32))) else (if (i2 - i2 / (2 : Int32) * (2 : Int32)) = (1 : Int32) then ((a_md_common N (((pb i1.toNatClampNeg) - (ma * (pa i1.toNatClampNeg))) - ((4 : Int32) * mc)) (4 : Int32)).bind (fun r_c139 => (if r_c139 = 0 then none else (some ((((pb i1.toNatClampNeg) - (ma * (pa i1.toNatClampNeg))) - ((4 : Int32) * mc)) / r_c139, (0 : Int32)))))) else ((a_md_common N (((pb i1.toNatClampNeg) - (ma * (pa i1.toNatClampNeg))) - ((4 : Int32) * mc)) (4 : Int32)).bind (fun r_c152 => (if r_c152 = 0 then none else (some ((4 : Int32) / r_c152, (0 : Int32))))))))) else (if i2 = 0 then (some (pa i1.toNatClampNeg, (0 : Int32))) else (if i2 = (1 : Int32) then (some (pb i1.toNatClampNeg, (0 : Int32))) else (if (i2 - i2 / (2 : Int32) * (2 : Int32)) = (1 : Int32) then ((a_md_common N (((pb i1.toNatClampNeg) - (ma * (pa i1.toNatClampNeg))) - ((4 : Int32) * mc)) (8 : Int32)).bind (fun r_c139 => (if r_c139 = 0 then none else (some ((((pb i1.toNatClampNeg) - (ma * (pa i1.toNatClampNeg))) - ((4 : Int32) * mc)) / r_c139, (0 : Int32)))))) else ((a_md_common N (((pb i1.toNatClampNeg) - (ma * (pa i1.toNatClampNeg))) - ((4 : Int32) * mc)) (8 : Int32)).bind (fun r_c152 => (if r_c152 = 0 then none else (some ((8 : Int32) / r_c152, (0 : Int32)))))))))))))) else (some ((0 : Int32), (0 : Int32))))))
set_option maxHeartbeats 4000000 in
set_option maxRecDepth 100000 in
theorem w_a_md_point (l : Launch) (D : va_G) (cI cJ : ClassId) (qm : Nat) (qa : Nat) (qb : Nat) (qc : Nat) (mt : Int32) (mh : Int32) (ma : Int32) (mc : Int32) (mp : Int32) (mz : Int32) (mw : Int32) (mr : Int32) (ml : Int32) (mf : Int32) (ms : Int32) (m1 : Int64) (m2 : Int64) (m3 : Int64) (m4 : Int64) (mx : Int64) (my : Int64) (pa : Nat → Int32) (pb : Nat → Int32) (po : Nat → Int32) (i1 : Int32) (i2 : Int32) (N : Nat) (r0 : Int32) (r1 : Int32) (hm : a_md_point N mh ma mc mp pa pb po i1 i2 = some (r0, r1)) : Met l y_md_point zs_md_point rm_md_point (zPc [.ref qm, .int i1, .int i2] D [(qm, .inr (4, [.int mt, .int mh, .int ma, .int mc, .long m1, .long m2, .long m3, .long m4, .int mp, .ref qa, .ref qb, .ref qc, .int mz, .int mw, .long mx, .long my, .int mr, .int ml, .int mf, .int ms])), (qa, .inl (cI, 40, .inl pa)), (qb, .inl (cI, 40, .inl pb)), (qc, .inl (cI, 40, .inl po))] [(cI, .int), (cJ, .long)]) (zWr (some (.int r0)) D (zIn [(qm, .inr (4, [.int mt, .int mh, .int ma, .int mc, .long m1, .long m2, .long m3, .long m4, .int mp, .ref qa, .ref qb, .ref qc, .int mz, .int mw, .long mx, .long my, .int mr, .int ml, .int mf, .int ms])), (qa, .inl (cI, 40, .inl pa)), (qb, .inl (cI, 40, .inl pb)), (qc, .inl (cI, 40, .inl po))]) [(qm, .inr (4, [.int r1, .int mh, .int ma, .int mc, .long m1, .long m2, .long m3, .long m4, .int mp, .ref qa, .ref qb, .ref qc, .int mz, .int mw, .long mx, .long my, .int mr, .int ml, .int mf, .int ms])), (qa, .inl (cI, 40, .inl pa)), (qb, .inl (cI, 40, .inl pb)), (qc, .inl (cI, 40, .inl po))]) 0 0 (zIn [(qm, .inr (4, [.int mt, .int mh, .int ma, .int mc, .long m1, .long m2, .long m3, .long m4, .int mp, .ref qa, .ref qb, .ref qc, .int mz, .int mw, .long mx, .long my, .int mr, .int ml, .int mf, .int ms])), (qa, .inl (cI, 40, .inl pa)), (qb, .inl (cI, 40, .inl pb)), (qc, .inl (cI, 40, .inl po))]) := by
  refine zm (by decide) (Nat.le_of_ble_eq_true rfl) ?_
  intro p e s m args below meth c R Q hR hQ hargs hx hb hml hr hlocks hnm hB hown hP hK hD0 ls hl
  have hown : s.vm.findClass "TorsionDeskModel" = some m.cls := hown
  have hl : lv_has ls 6 [(0, .ref qm), (1, .int i1), (2, .int i2)] := hl
  obtain ⟨A, hA⟩ : ∃ A, A = zIn [(qm, .inr (4, [.int mt, .int mh, .int ma, .int mc, .long m1, .long m2, .long m3, .long m4, .int mp, .ref qa, .ref qb, .ref qc, .int mz, .int mw, .long mx, .long my, .int mr, .int ml, .int mf, .int ms])), (qa, .inl (cI, 40, .inl pa)), (qb, .inl (cI, 40, .inl pb)), (qc, .inl (cI, 40, .inl po))] := ⟨_, rfl⟩
  have hD : va_D A [(qm, .inr (4, [.int mt, .int mh, .int ma, .int mc, .long m1, .long m2, .long m3, .long m4, .int mp, .ref qa, .ref qb, .ref qc, .int mz, .int mw, .long mx, .long my, .int mr, .int ml, .int mf, .int ms])), (qa, .inl (cI, 40, .inl pa)), (qb, .inl (cI, 40, .inl pb)), (qc, .inl (cI, 40, .inl po))] := by rw [hA]; exact zIn_self hD0
  have hS : va_S A s.heap s.heap [] := va_S.rf
  rw [← hA] at hQ
  have main : ∀ (H : Heap) (locs : List Loc), va_P D vwCl [(qm, .inr (4, [.int mt, .int mh, .int ma, .int mc, .long m1, .long m2, .long m3, .long m4, .int mp, .ref qa, .ref qb, .ref qc, .int mz, .int mw, .long mx, .long my, .int mr, .int ml, .int mf, .int ms])), (qa, .inl (cI, 40, .inl pa)), (qb, .inl (cI, 40, .inl pb)), (qc, .inl (cI, 40, .inl po))] H → va_D A [(qm, .inr (4, [.int mt, .int mh, .int ma, .int mc, .long m1, .long m2, .long m3, .long m4, .int mp, .ref qa, .ref qb, .ref qc, .int mz, .int mw, .long mx, .long my, .int mr, .int ml, .int mf, .int ms])), (qa, .inl (cI, 40, .inl pa)), (qb, .inl (cI, 40, .inl pb)), (qc, .inl (cI, 40, .inl po))] → va_S A s.heap H locs → W p l e R s m args below meth c H locs 0 0 Q (F0 m 0 ls []) := by
    intro H locs hP hD hS
    rw [a_md_point] at hm
    refine lv_aload_n (pc := 0) hx hb d_md_point_0 rfl (lv_at hl 0 rfl) ?_
    refine lv_iconst (pc := 1) (v := (0 : Int32)) hx hb d_md_point_1 (by decide) ?_
    refine va_put (pc := 2) (D := D) (ci := 4) (v := .int (0 : Int32)) (ty := .int) (C := "TorsionDeskModel") (T := tX4) (N := 20) hx hb hB lX4 yX4 yX4_ok nX4 hown hK hP hD hS 0 rfl rfl 0 (by decide) (hB _ zw_417) (fun _ h9 => h9) rfl (by decide +kernel) rfl rfl (Nat.le_of_ble_eq_true rfl) d_md_point_2 (fun H locs hP hD hS => ?_)
    have hP : va_P D vwCl [(qm, .inr (4, [.int (0 : Int32), .int mh, .int ma, .int mc, .long m1, .long m2, .long m3, .long m4, .int mp, .ref qa, .ref qb, .ref qc, .int mz, .int mw, .long mx, .long my, .int mr, .int ml, .int mf, .int ms])), (qa, .inl (cI, 40, .inl pa)), (qb, .inl (cI, 40, .inl pb)), (qc, .inl (cI, 40, .inl po))] H := hP
    have hD : va_D A [(qm, .inr (4, [.int (0 : Int32), .int mh, .int ma, .int mc, .long m1, .long m2, .long m3, .long m4, .int mp, .ref qa, .ref qb, .ref qc, .int mz, .int mw, .long mx, .long my, .int mr, .int ml, .int mf, .int ms])), (qa, .inl (cI, 40, .inl pa)), (qb, .inl (cI, 40, .inl pb)), (qc, .inl (cI, 40, .inl po))] := hD
    refine lv_aload_n (pc := 5) hx hb d_md_point_5 rfl (lv_at hl 0 rfl) ?_
    refine lv_iload_n (pc := 6) hx hb d_md_point_6 rfl (lv_at hl 1 rfl) ?_
    refine zcV (pc := 7) (As := [.int i1]) (rest := []) ⟨hx, hb, hml, hown, hB⟩ (w_a_md_isPoint l D cI cJ qm qa qb qc (0 : Int32) mh ma mc mp mz mw mr ml mf ms m1 m2 m3 m4 mx my pa pb po i1 _ rfl) (cwV 1 hB (zgV zw_551 zw_553 zv_md_isPoint zw_5 zw_554) rfl rfl rfl (by decide +kernel) ⟨by rw [hR]; exact Nat.le_of_ble_eq_true rfl, by rw [hR]; exact Nat.le_of_ble_eq_true rfl⟩) hK (hP.sub (ws' := [(qm, .inr (4, [.int (0 : Int32), .int mh, .int ma, .int mc, .long m1, .long m2, .long m3, .long m4, .int mp, .ref qa, .ref qb, .ref qc, .int mz, .int mw, .long mx, .long my, .int mr, .int ml, .int mf, .int ms])), (qa, .inl (cI, 40, .inl pa)), (qb, .inl (cI, 40, .inl pb)), (qc, .inl (cI, 40, .inl po))]) [0, 1, 2, 3] rfl) (hD.sub (ws' := [(qm, .inr (4, [.int (0 : Int32), .int mh, .int ma, .int mc, .long m1, .long m2, .long m3, .long m4, .int mp, .ref qa, .ref qb, .ref qc, .int mz, .int mw, .long mx, .long my, .int mr, .int ml, .int mf, .int ms])), (qa, .inl (cI, 40, .inl pa)), (qb, .inl (cI, 40, .inl pb)), (qc, .inl (cI, 40, .inl po))]) [0, 1, 2, 3] (by decide) rfl) rfl rfl rfl rfl hl.1 rfl (Nat.le_of_ble_eq_true rfl) d_md_point_7 ⟨Nat.zero_le _, Nat.zero_le _⟩ ?_
    refine lv_if_eq (pc := 10) (tgt := 23) hx hb d_md_point_10 rfl (fun h1 => ?_) (fun h1 => ?_)
    · rw [if_pos h1] at hm
      refine lv_iconst (pc := 23) (v := (0 : Int32)) hx hb d_md_point_23 (by decide) ?_
      cases hm
      rw [hQ]
      exact W.iret (pc := 24) hx hb hr (fun t ht _ => ⟨rfl, by rw [ht]; exact hP, hS.F ht⟩) hS.2.2 d_md_point_24
    rw [if_neg h1] at hm
    refine lv_iload_n (pc := 13) hx hb d_md_point_13 rfl (lv_at hl 2 rfl) ?_
    refine lv_if_lt (pc := 14) (tgt := 23) hx hb d_md_point_14 rfl (fun h2 => ?_) (fun h2 => ?_)
    · rw [if_pos h2] at hm
      refine lv_iconst (pc := 23) (v := (0 : Int32)) hx hb d_md_point_23 (by decide) ?_
      cases hm
      rw [hQ]
      exact W.iret (pc := 24) hx hb hr (fun t ht _ => ⟨rfl, by rw [ht]; exact hP, hS.F ht⟩) hS.2.2 d_md_point_24
    rw [if_neg h2] at hm
    refine lv_iload_n (pc := 17) hx hb d_md_point_17 rfl (lv_at hl 2 rfl) ?_
    refine lv_bipush (pc := 18) (v := (6 : Int32)) hx hb d_md_point_18 (by decide) ?_
    refine lv_icmp_le (pc := 20) (tgt := 25) hx hb d_md_point_20 rfl (fun h3 => ?_) (fun h3 => ?_)
    · rw [if_pos h3] at hm
      refine lv_iload_n (pc := 25) hx hb d_md_point_25 rfl (lv_at hl 2 rfl) ?_
      refine lv_iconst (pc := 26) (v := (2 : Int32)) hx hb d_md_point_26 (by decide) ?_
      refine lv_icmp_ne (pc := 27) (tgt := 37) hx hb d_md_point_27 rfl (fun h4 => ?_) (fun h4 => ?_)
      · rw [if_neg h4] at hm
        refine lv_iload_n (pc := 37) hx hb d_md_point_37 rfl (lv_at hl 1 rfl) ?_
        refine lv_if_ne (pc := 38) (tgt := 43) hx hb d_md_point_38 rfl (fun h5 => ?_) (fun h5 => ?_)
        · rw [if_neg h5] at hm
          refine lv_aload_n (pc := 43) hx hb d_md_point_43 rfl (lv_at hl 0 rfl) ?_
          refine va_get (pc := 44) (D := D) (ci := 4) (v := .ref qb) (C := "TorsionDeskModel") (T := tX4) (N := 20) hx hb hB lX4 hown hK hP 0 rfl rfl 10 (by decide) (hB _ zw_427) (fun _ h9 => h9) rfl d_md_point_44 ?_
          refine lv_iload_n (pc := 47) hx hb d_md_point_47 rfl (lv_at hl 1 rfl) ?_
          by_cases g6 : (i1 < 0 ∨ 40 ≤ i1.toNatClampNeg)
          · rw [if_pos g6] at hm; cases hm
          rw [if_neg g6] at hm
          refine va_iald (pc := 48) hx hb hK hP 2 0 rfl rfl g6 d_md_point_48 ?_
          refine lv_aload_n (pc := 49) hx hb d_md_point_49 rfl (lv_at hl 0 rfl) ?_
          refine va_get (pc := 50) (D := D) (ci := 4) (v := .int ma) (C := "TorsionDeskModel") (T := tX4) (N := 20) hx hb hB lX4 hown hK hP 0 rfl rfl 2 (by decide) (hB _ zw_419) (fun _ h9 => h9) rfl d_md_point_50 ?_
          refine lv_aload_n (pc := 53) hx hb d_md_point_53 rfl (lv_at hl 0 rfl) ?_
          refine va_get (pc := 54) (D := D) (ci := 4) (v := .ref qa) (C := "TorsionDeskModel") (T := tX4) (N := 20) hx hb hB lX4 hown hK hP 0 rfl rfl 9 (by decide) (hB _ zw_426) (fun _ h9 => h9) rfl d_md_point_54 ?_
          refine lv_iload_n (pc := 57) hx hb d_md_point_57 rfl (lv_at hl 1 rfl) ?_
          refine va_iald (pc := 58) hx hb hK hP 1 0 rfl rfl g6 d_md_point_58 ?_
          refine lv_imul (pc := 59) hx hb d_md_point_59 ?_
          refine lv_isub (pc := 60) hx hb d_md_point_60 ?_
          refine lv_iconst (pc := 61) (v := (4 : Int32)) hx hb d_md_point_61 (by decide) ?_
          refine lv_aload_n (pc := 62) hx hb d_md_point_62 rfl (lv_at hl 0 rfl) ?_
          refine va_get (pc := 63) (D := D) (ci := 4) (v := .int mc) (C := "TorsionDeskModel") (T := tX4) (N := 20) hx hb hB lX4 hown hK hP 0 rfl rfl 3 (by decide) (hB _ zw_420) (fun _ h9 => h9) rfl d_md_point_63 ?_
          refine lv_imul (pc := 66) hx hb d_md_point_66 ?_
          refine lv_isub (pc := 67) hx hb d_md_point_67 ?_
          refine lv_istore_n (pc := 68) (lv' := [(3, .int (((pb i1.toNatClampNeg) - (ma * (pa i1.toNatClampNeg))) - ((4 : Int32) * mc))), (0, .ref qm), (1, .int i1), (2, .int i2)]) hx hb d_md_point_68 rfl hl (Nat.le_of_ble_eq_true rfl) rfl (fun ls hl => ?_)
          refine lv_iload_n (pc := 69) hx hb d_md_point_69 rfl (lv_at hl 3 rfl) ?_
          refine lv_iconst (pc := 70) (v := (4 : Int32)) hx hb d_md_point_70 (by decide) ?_
          refine lv_icmp_le (pc := 71) (tgt := 78) hx hb d_md_point_71 rfl (fun h7 => ?_) (fun h7 => ?_)
          · rw [if_pos h7] at hm
            refine lv_aload_n (pc := 78) hx hb d_md_point_78 rfl (lv_at hl 1 rfl) ?_
            refine va_get (pc := 79) (D := D) (ci := 4) (v := .ref qa) (C := "TorsionDeskModel") (T := tX4) (N := 20) hx hb hB lX4 hown hK hP 0 rfl rfl 9 (by decide) (hB _ zw_426) (fun _ h9 => h9) rfl d_md_point_79 ?_
            refine lv_iload_n (pc := 82) hx hb d_md_point_82 rfl (lv_at hl 2 rfl) ?_
            refine va_iald (pc := 83) hx hb hK hP 1 0 rfl rfl g6 d_md_point_83 ?_
            refine lv_istore (pc := 84) (lv' := [(4, .int (pa i1.toNatClampNeg)), (3, .int (((pb i1.toNatClampNeg) - (ma * (pa i1.toNatClampNeg))) - ((4 : Int32) * mc))), (0, .ref qm), (1, .int i1), (2, .int i2)]) hx hb d_md_point_84 hl (Nat.le_of_ble_eq_true rfl) rfl (fun ls hl => ?_)
            refine lv_iload_n (pc := 86) hx hb d_md_point_86 rfl (lv_at hl 4 rfl) ?_
            refine lv_iconst (pc := 87) (v := (4 : Int32)) hx hb d_md_point_87 (by decide) ?_
            refine lv_icmp_le (pc := 88) (tgt := 96) hx hb d_md_point_88 rfl (fun h8 => ?_) (fun h8 => ?_)
            · rw [if_pos h8] at hm
              refine lv_iconst (pc := 96) (v := (4 : Int32)) hx hb d_md_point_96 (by decide) ?_
              refine lv_istore (pc := 97) (lv' := [(5, .int (4 : Int32)), (4, .int (pa i1.toNatClampNeg)), (3, .int (((pb i1.toNatClampNeg) - (ma * (pa i1.toNatClampNeg))) - ((4 : Int32) * mc))), (0, .ref qm), (1, .int i1), (2, .int i2)]) hx hb d_md_point_97 hl (Nat.le_of_ble_eq_true rfl) rfl (fun ls hl => ?_)
              refine lv_iload_n (pc := 99) hx hb d_md_point_99 rfl (lv_at hl 5 rfl) ?_
              refine lv_if_ne (pc := 100) (tgt := 112) hx hb d_md_point_100 rfl (fun h9 => ?_) (fun h9 => ?_)
              · rw [if_neg h9] at hm
                refine lv_iload_n (pc := 112) hx hb d_md_point_112 rfl (lv_at hl 5 rfl) ?_
                refine lv_iconst (pc := 113) (v := (1 : Int32)) hx hb d_md_point_113 (by decide) ?_
                refine lv_icmp_ne (pc := 114) (tgt := 126) hx hb d_md_point_114 rfl (fun h10 => ?_) (fun h10 => ?_)
                · rw [if_neg h10] at hm
                  refine lv_iload_n (pc := 126) hx hb d_md_point_126 rfl (lv_at hl 5 rfl) ?_
                  refine lv_iconst (pc := 127) (v := (2 : Int32)) hx hb d_md_point_127 (by decide) ?_
                  refine lv_irem (pc := 128) hx hb d_md_point_128 (by decide) ?_
                  refine lv_iconst (pc := 129) (v := (1 : Int32)) hx hb d_md_point_129 (by decide) ?_
                  refine lv_icmp_ne (pc := 130) (tgt := 146) hx hb d_md_point_130 rfl (fun h11 => ?_) (fun h11 => ?_)
                  · rw [if_neg h11] at hm
                    refine lv_iload (pc := 146) hx hb d_md_point_146 (lv_at hl 0 rfl) ?_
                    refine lv_iload (pc := 148) hx hb d_md_point_148 (lv_at hl 1 rfl) ?_
                    refine lv_iload (pc := 150) hx hb d_md_point_150 (lv_at hl 0 rfl) ?_
                    obtain ⟨r_c152, c12, hm⟩ := zbind hm
                    try dsimp only at hm
                    refine zcS (pc := 152) (As := [.int (pa i1.toNatClampNeg), .int (4 : Int32)]) (rest := [.int (4 : Int32)]) ⟨hx, hb, hml, hown, hB⟩ (w_a_md_common l D cI cJ (pa i1.toNatClampNeg) (4 : Int32) N r_c152 c12) (va_cwS 2 hB (zgS zw_555 zw_556 zw_5 zw_557) rfl rfl rfl (by decide +kernel) ⟨by rw [hR]; exact Nat.le_of_ble_eq_true rfl, by rw [hR]; exact Nat.le_of_ble_eq_true rfl⟩) hK (hP.sub (ws' := []) [] rfl) (hD.sub (ws' := []) [] (by decide) rfl) rfl hl.1 rfl (Nat.le_of_ble_eq_true rfl) d_md_point_152 ⟨Nat.zero_le _, Nat.zero_le _⟩ ?_
                    by_cases g13 : r_c152 = 0
                    · rw [if_pos g13] at hm; cases hm
                    rw [if_neg g13] at hm
                    refine lv_idiv (pc := 155) hx hb d_md_point_155 g13 ?_
                    cases hm
                    rw [hQ]
                    exact W.iret (pc := 156) hx hb hr (fun t ht _ => ⟨rfl, by rw [ht]; exact hP, hS.F ht⟩) hS.2.2 d_md_point_156
                  rw [if_pos h11] at hm
                  refine lv_iload (pc := 133) hx hb d_md_point_133 (lv_at hl 1 rfl) ?_
                  refine lv_iload (pc := 135) hx hb d_md_point_135 (lv_at hl 1 rfl) ?_
                  refine lv_iload (pc := 137) hx hb d_md_point_137 (lv_at hl 0 rfl) ?_
                  obtain ⟨r_c139, c14, hm⟩ := zbind hm
                  try dsimp only at hm
                  refine zcS (pc := 139) (As := [.int (pa i1.toNatClampNeg), .int (4 : Int32)]) (rest := [.int (pa i1.toNatClampNeg)]) ⟨hx, hb, hml, hown, hB⟩ (w_a_md_common l D cI cJ (pa i1.toNatClampNeg) (4 : Int32) N r_c139 c14) (va_cwS 2 hB (zgS zw_555 zw_556 zw_5 zw_557) rfl rfl rfl (by decide +kernel) ⟨by rw [hR]; exact Nat.le_of_ble_eq_true rfl, by rw [hR]; exact Nat.le_of_ble_eq_true rfl⟩) hK (hP.sub (ws' := []) [] rfl) (hD.sub (ws' := []) [] (by decide) rfl) rfl hl.1 rfl (Nat.le_of_ble_eq_true rfl) d_md_point_139 ⟨Nat.zero_le _, Nat.zero_le _⟩ ?_
                  by_cases g15 : r_c139 = 0
                  · rw [if_pos g15] at hm; cases hm
                  rw [if_neg g15] at hm
                  refine lv_idiv (pc := 142) hx hb d_md_point_142 g15 ?_
                  refine lv_goto (pc := 143) (tgt := 156) hx hb d_md_point_143 rfl ?_
                  cases hm
                  rw [hQ]
                  exact W.iret (pc := 156) hx hb hr (fun t ht _ => ⟨rfl, by rw [ht]; exact hP, hS.F ht⟩) hS.2.2 d_md_point_156
                rw [if_pos h10] at hm
                refine lv_aload_n (pc := 117) hx hb d_md_point_117 rfl (lv_at hl 3 rfl) ?_
                refine va_get (pc := 118) (D := D) (ci := 4) (v := .ref qb) (C := "TorsionDeskModel") (T := tX4) (N := 20) hx hb hB lX4 hown hK hP 0 rfl rfl 10 (by decide) (hB _ zw_427) (fun _ h9 => h9) rfl d_md_point_118 ?_
                refine lv_iload_n (pc := 121) hx hb d_md_point_121 rfl (lv_at hl 4 rfl) ?_
                refine va_iald (pc := 122) hx hb hK hP 2 0 rfl rfl g6 d_md_point_122 ?_
                refine lv_goto (pc := 123) (tgt := 156) hx hb d_md_point_123 rfl ?_
                cases hm
                rw [hQ]
                exact W.iret (pc := 156) hx hb hr (fun t ht _ => ⟨rfl, by rw [ht]; exact hP, hS.F ht⟩) hS.2.2 d_md_point_156
              rw [if_pos h9] at hm
              refine lv_aload_n (pc := 103) hx hb d_md_point_103 rfl (lv_at hl 3 rfl) ?_
              refine va_get (pc := 104) (D := D) (ci := 4) (v := .ref qa) (C := "TorsionDeskModel") (T := tX4) (N := 20) hx hb hB lX4 hown hK hP 0 rfl rfl 9 (by decide) (hB _ zw_426) (fun _ h9 => h9) rfl d_md_point_104 ?_
              refine lv_iload_n (pc := 107) hx hb d_md_point_107 rfl (lv_at hl 4 rfl) ?_
              refine va_iald (pc := 108) hx hb hK hP 1 0 rfl rfl g6 d_md_point_108 ?_
              refine lv_goto (pc := 109) (tgt := 156) hx hb d_md_point_109 rfl ?_
              cases hm
              rw [hQ]
              exact W.iret (pc := 156) hx hb hr (fun t ht _ => ⟨rfl, by rw [ht]; exact hP, hS.F ht⟩) hS.2.2 d_md_point_156
            rw [if_neg h8] at hm
            refine lv_bipush (pc := 91) (v := (8 : Int32)) hx hb d_md_point_91 (by decide) ?_
            refine lv_goto (pc := 93) (tgt := 97) hx hb d_md_point_93 rfl ?_
            refine lv_istore (pc := 97) (lv' := [(5, .int (8 : Int32)), (4, .int (pa i1.toNatClampNeg)), (3, .int (((pb i1.toNatClampNeg) - (ma * (pa i1.toNatClampNeg))) - ((4 : Int32) * mc))), (0, .ref qm), (1, .int i1), (2, .int i2)]) hx hb d_md_point_97 hl (Nat.le_of_ble_eq_true rfl) rfl (fun ls hl => ?_)
            refine lv_iload_n (pc := 99) hx hb d_md_point_99 rfl (lv_at hl 5 rfl) ?_
            refine lv_if_ne (pc := 100) (tgt := 112) hx hb d_md_point_100 rfl (fun h16 => ?_) (fun h16 => ?_)
            · rw [if_neg h16] at hm
              refine lv_iload_n (pc := 112) hx hb d_md_point_112 rfl (lv_at hl 5 rfl) ?_
              refine lv_iconst (pc := 113) (v := (1 : Int32)) hx hb d_md_point_113 (by decide) ?_
              refine lv_icmp_ne (pc := 114) (tgt := 126) hx hb d_md_point_114 rfl (fun h17 => ?_) (fun h17 => ?_)
              · rw [if_neg h17] at hm
                refine lv_iload_n (pc := 126) hx hb d_md_point_126 rfl (lv_at hl 5 rfl) ?_
                refine lv_iconst (pc := 127) (v := (2 : Int32)) hx hb d_md_point_127 (by decide) ?_
                refine lv_irem (pc := 128) hx hb d_md_point_128 (by decide) ?_
                refine lv_iconst (pc := 129) (v := (1 : Int32)) hx hb d_md_point_129 (by decide) ?_
                refine lv_icmp_ne (pc := 130) (tgt := 146) hx hb d_md_point_130 rfl (fun h18 => ?_) (fun h18 => ?_)
                · rw [if_neg h18] at hm
                  refine lv_iload (pc := 146) hx hb d_md_point_146 (lv_at hl 0 rfl) ?_
                  refine lv_iload (pc := 148) hx hb d_md_point_148 (lv_at hl 1 rfl) ?_
                  refine lv_iload (pc := 150) hx hb d_md_point_150 (lv_at hl 0 rfl) ?_
                  obtain ⟨r_c152, c19, hm⟩ := zbind hm
                  try dsimp only at hm
                  refine zcS (pc := 152) (As := [.int (pa i1.toNatClampNeg), .int (8 : Int32)]) (rest := [.int (8 : Int32)]) ⟨hx, hb, hml, hown, hB⟩ (w_a_md_common l D cI cJ (pa i1.toNatClampNeg) (8 : Int32) N r_c152 c19) (va_cwS 2 hB (zgS zw_555 zw_556 zw_5 zw_557) rfl rfl rfl (by decide +kernel) ⟨by rw [hR]; exact Nat.le_of_ble_eq_true rfl, by rw [hR]; exact Nat.le_of_ble_eq_true rfl⟩) hK (hP.sub (ws' := []) [] rfl) (hD.sub (ws' := []) [] (by decide) rfl) rfl hl.1 rfl (Nat.le_of_ble_eq_true rfl) d_md_point_152 ⟨Nat.zero_le _, Nat.zero_le _⟩ ?_
                  by_cases g20 : r_c152 = 0
                  · rw [if_pos g20] at hm; cases hm
                  rw [if_neg g20] at hm
                  refine lv_idiv (pc := 155) hx hb d_md_point_155 g20 ?_
                  cases hm
                  rw [hQ]
                  exact W.iret (pc := 156) hx hb hr (fun t ht _ => ⟨rfl, by rw [ht]; exact hP, hS.F ht⟩) hS.2.2 d_md_point_156
                rw [if_pos h18] at hm
                refine lv_iload (pc := 133) hx hb d_md_point_133 (lv_at hl 1 rfl) ?_
                refine lv_iload (pc := 135) hx hb d_md_point_135 (lv_at hl 1 rfl) ?_
                refine lv_iload (pc := 137) hx hb d_md_point_137 (lv_at hl 0 rfl) ?_
                obtain ⟨r_c139, c21, hm⟩ := zbind hm
                try dsimp only at hm
                refine zcS (pc := 139) (As := [.int (pa i1.toNatClampNeg), .int (8 : Int32)]) (rest := [.int (pa i1.toNatClampNeg)]) ⟨hx, hb, hml, hown, hB⟩ (w_a_md_common l D cI cJ (pa i1.toNatClampNeg) (8 : Int32) N r_c139 c21) (va_cwS 2 hB (zgS zw_555 zw_556 zw_5 zw_557) rfl rfl rfl (by decide +kernel) ⟨by rw [hR]; exact Nat.le_of_ble_eq_true rfl, by rw [hR]; exact Nat.le_of_ble_eq_true rfl⟩) hK (hP.sub (ws' := []) [] rfl) (hD.sub (ws' := []) [] (by decide) rfl) rfl hl.1 rfl (Nat.le_of_ble_eq_true rfl) d_md_point_139 ⟨Nat.zero_le _, Nat.zero_le _⟩ ?_
                by_cases g22 : r_c139 = 0
                · rw [if_pos g22] at hm; cases hm
                rw [if_neg g22] at hm
                refine lv_idiv (pc := 142) hx hb d_md_point_142 g22 ?_
                refine lv_goto (pc := 143) (tgt := 156) hx hb d_md_point_143 rfl ?_
                cases hm
                rw [hQ]
                exact W.iret (pc := 156) hx hb hr (fun t ht _ => ⟨rfl, by rw [ht]; exact hP, hS.F ht⟩) hS.2.2 d_md_point_156
              rw [if_pos h17] at hm
              refine lv_aload_n (pc := 117) hx hb d_md_point_117 rfl (lv_at hl 3 rfl) ?_
              refine va_get (pc := 118) (D := D) (ci := 4) (v := .ref qb) (C := "TorsionDeskModel") (T := tX4) (N := 20) hx hb hB lX4 hown hK hP 0 rfl rfl 10 (by decide) (hB _ zw_427) (fun _ h9 => h9) rfl d_md_point_118 ?_
              refine lv_iload_n (pc := 121) hx hb d_md_point_121 rfl (lv_at hl 4 rfl) ?_
              refine va_iald (pc := 122) hx hb hK hP 2 0 rfl rfl g6 d_md_point_122 ?_
              refine lv_goto (pc := 123) (tgt := 156) hx hb d_md_point_123 rfl ?_
              cases hm
              rw [hQ]
              exact W.iret (pc := 156) hx hb hr (fun t ht _ => ⟨rfl, by rw [ht]; exact hP, hS.F ht⟩) hS.2.2 d_md_point_156
            rw [if_pos h16] at hm
            refine lv_aload_n (pc := 103) hx hb d_md_point_103 rfl (lv_at hl 3 rfl) ?_
            refine va_get (pc := 104) (D := D) (ci := 4) (v := .ref qa) (C := "TorsionDeskModel") (T := tX4) (N := 20) hx hb hB lX4 hown hK hP 0 rfl rfl 9 (by decide) (hB _ zw_426) (fun _ h9 => h9) rfl d_md_point_104 ?_
            refine lv_iload_n (pc := 107) hx hb d_md_point_107 rfl (lv_at hl 4 rfl) ?_
            refine va_iald (pc := 108) hx hb hK hP 1 0 rfl rfl g6 d_md_point_108 ?_
            refine lv_goto (pc := 109) (tgt := 156) hx hb d_md_point_109 rfl ?_
            cases hm
            rw [hQ]
            exact W.iret (pc := 156) hx hb hr (fun t ht _ => ⟨rfl, by rw [ht]; exact hP, hS.F ht⟩) hS.2.2 d_md_point_156
          rw [if_neg h7] at hm
          refine lv_iload_n (pc := 74) hx hb d_md_point_74 rfl (lv_at hl 0 rfl) ?_
          refine lv_goto (pc := 75) (tgt := 84) hx hb d_md_point_75 rfl ?_
          refine lv_istore (pc := 84) (lv' := [(4, .int (((pb i1.toNatClampNeg) - (ma * (pa i1.toNatClampNeg))) - ((4 : Int32) * mc))), (3, .int (((pb i1.toNatClampNeg) - (ma * (pa i1.toNatClampNeg))) - ((4 : Int32) * mc))), (0, .ref qm), (1, .int i1), (2, .int i2)]) hx hb d_md_point_84 hl (Nat.le_of_ble_eq_true rfl) rfl (fun ls hl => ?_)
          refine lv_iload_n (pc := 86) hx hb d_md_point_86 rfl (lv_at hl 4 rfl) ?_
          refine lv_iconst (pc := 87) (v := (4 : Int32)) hx hb d_md_point_87 (by decide) ?_
          refine lv_icmp_le (pc := 88) (tgt := 96) hx hb d_md_point_88 rfl (fun h23 => ?_) (fun h23 => ?_)
          · rw [if_pos h23] at hm
            refine lv_iconst (pc := 96) (v := (4 : Int32)) hx hb d_md_point_96 (by decide) ?_
            refine lv_istore (pc := 97) (lv' := [(5, .int (4 : Int32)), (4, .int (((pb i1.toNatClampNeg) - (ma * (pa i1.toNatClampNeg))) - ((4 : Int32) * mc))), (3, .int (((pb i1.toNatClampNeg) - (ma * (pa i1.toNatClampNeg))) - ((4 : Int32) * mc))), (0, .ref qm), (1, .int i1), (2, .int i2)]) hx hb d_md_point_97 hl (Nat.le_of_ble_eq_true rfl) rfl (fun ls hl => ?_)
            refine lv_iload_n (pc := 99) hx hb d_md_point_99 rfl (lv_at hl 5 rfl) ?_
            refine lv_if_ne (pc := 100) (tgt := 112) hx hb d_md_point_100 rfl (fun h24 => ?_) (fun h24 => ?_)
            · rw [if_neg h24] at hm
              refine lv_iload_n (pc := 112) hx hb d_md_point_112 rfl (lv_at hl 5 rfl) ?_
              refine lv_iconst (pc := 113) (v := (1 : Int32)) hx hb d_md_point_113 (by decide) ?_
              refine lv_icmp_ne (pc := 114) (tgt := 126) hx hb d_md_point_114 rfl (fun h25 => ?_) (fun h25 => ?_)
              · rw [if_neg h25] at hm
                refine lv_iload_n (pc := 126) hx hb d_md_point_126 rfl (lv_at hl 5 rfl) ?_
                refine lv_iconst (pc := 127) (v := (2 : Int32)) hx hb d_md_point_127 (by decide) ?_
                refine lv_irem (pc := 128) hx hb d_md_point_128 (by decide) ?_
                refine lv_iconst (pc := 129) (v := (1 : Int32)) hx hb d_md_point_129 (by decide) ?_
                refine lv_icmp_ne (pc := 130) (tgt := 146) hx hb d_md_point_130 rfl (fun h26 => ?_) (fun h26 => ?_)
                · rw [if_neg h26] at hm
                  refine lv_iload (pc := 146) hx hb d_md_point_146 (lv_at hl 0 rfl) ?_
                  refine lv_iload (pc := 148) hx hb d_md_point_148 (lv_at hl 1 rfl) ?_
                  refine lv_iload (pc := 150) hx hb d_md_point_150 (lv_at hl 0 rfl) ?_
                  obtain ⟨r_c152, c27, hm⟩ := zbind hm
                  try dsimp only at hm
                  refine zcS (pc := 152) (As := [.int (((pb i1.toNatClampNeg) - (ma * (pa i1.toNatClampNeg))) - ((4 : Int32) * mc)), .int (4 : Int32)]) (rest := [.int (4 : Int32)]) ⟨hx, hb, hml, hown, hB⟩ (w_a_md_common l D cI cJ (((pb i1.toNatClampNeg) - (ma * (pa i1.toNatClampNeg))) - ((4 : Int32) * mc)) (4 : Int32) N r_c152 c27) (va_cwS 2 hB (zgS zw_555 zw_556 zw_5 zw_557) rfl rfl rfl (by decide +kernel) ⟨by rw [hR]; exact Nat.le_of_ble_eq_true rfl, by rw [hR]; exact Nat.le_of_ble_eq_true rfl⟩) hK (hP.sub (ws' := []) [] rfl) (hD.sub (ws' := []) [] (by decide) rfl) rfl hl.1 rfl (Nat.le_of_ble_eq_true rfl) d_md_point_152 ⟨Nat.zero_le _, Nat.zero_le _⟩ ?_
                  by_cases g28 : r_c152 = 0
                  · rw [if_pos g28] at hm; cases hm
                  rw [if_neg g28] at hm
                  refine lv_idiv (pc := 155) hx hb d_md_point_155 g28 ?_
                  cases hm
                  rw [hQ]
                  exact W.iret (pc := 156) hx hb hr (fun t ht _ => ⟨rfl, by rw [ht]; exact hP, hS.F ht⟩) hS.2.2 d_md_point_156
                rw [if_pos h26] at hm
                refine lv_iload (pc := 133) hx hb d_md_point_133 (lv_at hl 1 rfl) ?_
                refine lv_iload (pc := 135) hx hb d_md_point_135 (lv_at hl 1 rfl) ?_
                refine lv_iload (pc := 137) hx hb d_md_point_137 (lv_at hl 0 rfl) ?_
                obtain ⟨r_c139, c29, hm⟩ := zbind hm
                try dsimp only at hm
                refine zcS (pc := 139) (As := [.int (((pb i1.toNatClampNeg) - (ma * (pa i1.toNatClampNeg))) - ((4 : Int32) * mc)), .int (4 : Int32)]) (rest := [.int (((pb i1.toNatClampNeg) - (ma * (pa i1.toNatClampNeg))) - ((4 : Int32) * mc))]) ⟨hx, hb, hml, hown, hB⟩ (w_a_md_common l D cI cJ (((pb i1.toNatClampNeg) - (ma * (pa i1.toNatClampNeg))) - ((4 : Int32) * mc)) (4 : Int32) N r_c139 c29) (va_cwS 2 hB (zgS zw_555 zw_556 zw_5 zw_557) rfl rfl rfl (by decide +kernel) ⟨by rw [hR]; exact Nat.le_of_ble_eq_true rfl, by rw [hR]; exact Nat.le_of_ble_eq_true rfl⟩) hK (hP.sub (ws' := []) [] rfl) (hD.sub (ws' := []) [] (by decide) rfl) rfl hl.1 rfl (Nat.le_of_ble_eq_true rfl) d_md_point_139 ⟨Nat.zero_le _, Nat.zero_le _⟩ ?_
                by_cases g30 : r_c139 = 0
                · rw [if_pos g30] at hm; cases hm
                rw [if_neg g30] at hm
                refine lv_idiv (pc := 142) hx hb d_md_point_142 g30 ?_
                refine lv_goto (pc := 143) (tgt := 156) hx hb d_md_point_143 rfl ?_
                cases hm
                rw [hQ]
                exact W.iret (pc := 156) hx hb hr (fun t ht _ => ⟨rfl, by rw [ht]; exact hP, hS.F ht⟩) hS.2.2 d_md_point_156
              rw [if_pos h25] at hm
              refine lv_aload_n (pc := 117) hx hb d_md_point_117 rfl (lv_at hl 3 rfl) ?_
              refine va_get (pc := 118) (D := D) (ci := 4) (v := .ref qb) (C := "TorsionDeskModel") (T := tX4) (N := 20) hx hb hB lX4 hown hK hP 0 rfl rfl 10 (by decide) (hB _ zw_427) (fun _ h9 => h9) rfl d_md_point_118 ?_
              refine lv_iload_n (pc := 121) hx hb d_md_point_121 rfl (lv_at hl 4 rfl) ?_
              refine va_iald (pc := 122) hx hb hK hP 2 0 rfl rfl g6 d_md_point_122 ?_
              refine lv_goto (pc := 123) (tgt := 156) hx hb d_md_point_123 rfl ?_
              cases hm
              rw [hQ]
              exact W.iret (pc := 156) hx hb hr (fun t ht _ => ⟨rfl, by rw [ht]; exact hP, hS.F ht⟩) hS.2.2 d_md_point_156
            rw [if_pos h24] at hm
            refine lv_aload_n (pc := 103) hx hb d_md_point_103 rfl (lv_at hl 3 rfl) ?_
            refine va_get (pc := 104) (D := D) (ci := 4) (v := .ref qa) (C := "TorsionDeskModel") (T := tX4) (N := 20) hx hb hB lX4 hown hK hP 0 rfl rfl 9 (by decide) (hB _ zw_426) (fun _ h9 => h9) rfl d_md_point_104 ?_
            refine lv_iload_n (pc := 107) hx hb d_md_point_107 rfl (lv_at hl 4 rfl) ?_
            refine va_iald (pc := 108) hx hb hK hP 1 0 rfl rfl g6 d_md_point_108 ?_
            refine lv_goto (pc := 109) (tgt := 156) hx hb d_md_point_109 rfl ?_
            cases hm
            rw [hQ]
            exact W.iret (pc := 156) hx hb hr (fun t ht _ => ⟨rfl, by rw [ht]; exact hP, hS.F ht⟩) hS.2.2 d_md_point_156
          rw [if_neg h23] at hm
          refine lv_bipush (pc := 91) (v := (8 : Int32)) hx hb d_md_point_91 (by decide) ?_
          refine lv_goto (pc := 93) (tgt := 97) hx hb d_md_point_93 rfl ?_
          refine lv_istore (pc := 97) (lv' := [(5, .int (8 : Int32)), (4, .int (((pb i1.toNatClampNeg) - (ma * (pa i1.toNatClampNeg))) - ((4 : Int32) * mc))), (3, .int (((pb i1.toNatClampNeg) - (ma * (pa i1.toNatClampNeg))) - ((4 : Int32) * mc))), (0, .ref qm), (1, .int i1), (2, .int i2)]) hx hb d_md_point_97 hl (Nat.le_of_ble_eq_true rfl) rfl (fun ls hl => ?_)
          refine lv_iload_n (pc := 99) hx hb d_md_point_99 rfl (lv_at hl 5 rfl) ?_
          refine lv_if_ne (pc := 100) (tgt := 112) hx hb d_md_point_100 rfl (fun h31 => ?_) (fun h31 => ?_)
          · rw [if_neg h31] at hm
            refine lv_iload_n (pc := 112) hx hb d_md_point_112 rfl (lv_at hl 5 rfl) ?_
            refine lv_iconst (pc := 113) (v := (1 : Int32)) hx hb d_md_point_113 (by decide) ?_
            refine lv_icmp_ne (pc := 114) (tgt := 126) hx hb d_md_point_114 rfl (fun h32 => ?_) (fun h32 => ?_)
            · rw [if_neg h32] at hm
              refine lv_iload_n (pc := 126) hx hb d_md_point_126 rfl (lv_at hl 5 rfl) ?_
              refine lv_iconst (pc := 127) (v := (2 : Int32)) hx hb d_md_point_127 (by decide) ?_
              refine lv_irem (pc := 128) hx hb d_md_point_128 (by decide) ?_
              refine lv_iconst (pc := 129) (v := (1 : Int32)) hx hb d_md_point_129 (by decide) ?_
              refine lv_icmp_ne (pc := 130) (tgt := 146) hx hb d_md_point_130 rfl (fun h33 => ?_) (fun h33 => ?_)
              · rw [if_neg h33] at hm
                refine lv_iload (pc := 146) hx hb d_md_point_146 (lv_at hl 0 rfl) ?_
                refine lv_iload (pc := 148) hx hb d_md_point_148 (lv_at hl 1 rfl) ?_
                refine lv_iload (pc := 150) hx hb d_md_point_150 (lv_at hl 0 rfl) ?_
                obtain ⟨r_c152, c34, hm⟩ := zbind hm
                try dsimp only at hm
                refine zcS (pc := 152) (As := [.int (((pb i1.toNatClampNeg) - (ma * (pa i1.toNatClampNeg))) - ((4 : Int32) * mc)), .int (8 : Int32)]) (rest := [.int (8 : Int32)]) ⟨hx, hb, hml, hown, hB⟩ (w_a_md_common l D cI cJ (((pb i1.toNatClampNeg) - (ma * (pa i1.toNatClampNeg))) - ((4 : Int32) * mc)) (8 : Int32) N r_c152 c34) (va_cwS 2 hB (zgS zw_555 zw_556 zw_5 zw_557) rfl rfl rfl (by decide +kernel) ⟨by rw [hR]; exact Nat.le_of_ble_eq_true rfl, by rw [hR]; exact Nat.le_of_ble_eq_true rfl⟩) hK (hP.sub (ws' := []) [] rfl) (hD.sub (ws' := []) [] (by decide) rfl) rfl hl.1 rfl (Nat.le_of_ble_eq_true rfl) d_md_point_152 ⟨Nat.zero_le _, Nat.zero_le _⟩ ?_
                by_cases g35 : r_c152 = 0
                · rw [if_pos g35] at hm; cases hm
                rw [if_neg g35] at hm
                refine lv_idiv (pc := 155) hx hb d_md_point_155 g35 ?_
                cases hm
                rw [hQ]
                exact W.iret (pc := 156) hx hb hr (fun t ht _ => ⟨rfl, by rw [ht]; exact hP, hS.F ht⟩) hS.2.2 d_md_point_156
              rw [if_pos h33] at hm
              refine lv_iload (pc := 133) hx hb d_md_point_133 (lv_at hl 1 rfl) ?_
              refine lv_iload (pc := 135) hx hb d_md_point_135 (lv_at hl 1 rfl) ?_
              refine lv_iload (pc := 137) hx hb d_md_point_137 (lv_at hl 0 rfl) ?_
              obtain ⟨r_c139, c36, hm⟩ := zbind hm
              try dsimp only at hm
              refine zcS (pc := 139) (As := [.int (((pb i1.toNatClampNeg) - (ma * (pa i1.toNatClampNeg))) - ((4 : Int32) * mc)), .int (8 : Int32)]) (rest := [.int (((pb i1.toNatClampNeg) - (ma * (pa i1.toNatClampNeg))) - ((4 : Int32) * mc))]) ⟨hx, hb, hml, hown, hB⟩ (w_a_md_common l D cI cJ (((pb i1.toNatClampNeg) - (ma * (pa i1.toNatClampNeg))) - ((4 : Int32) * mc)) (8 : Int32) N r_c139 c36) (va_cwS 2 hB (zgS zw_555 zw_556 zw_5 zw_557) rfl rfl rfl (by decide +kernel) ⟨by rw [hR]; exact Nat.le_of_ble_eq_true rfl, by rw [hR]; exact Nat.le_of_ble_eq_true rfl⟩) hK (hP.sub (ws' := []) [] rfl) (hD.sub (ws' := []) [] (by decide) rfl) rfl hl.1 rfl (Nat.le_of_ble_eq_true rfl) d_md_point_139 ⟨Nat.zero_le _, Nat.zero_le _⟩ ?_
              by_cases g37 : r_c139 = 0
              · rw [if_pos g37] at hm; cases hm
              rw [if_neg g37] at hm
              refine lv_idiv (pc := 142) hx hb d_md_point_142 g37 ?_
              refine lv_goto (pc := 143) (tgt := 156) hx hb d_md_point_143 rfl ?_
              cases hm
              rw [hQ]
              exact W.iret (pc := 156) hx hb hr (fun t ht _ => ⟨rfl, by rw [ht]; exact hP, hS.F ht⟩) hS.2.2 d_md_point_156
            rw [if_pos h32] at hm
            refine lv_aload_n (pc := 117) hx hb d_md_point_117 rfl (lv_at hl 3 rfl) ?_
            refine va_get (pc := 118) (D := D) (ci := 4) (v := .ref qb) (C := "TorsionDeskModel") (T := tX4) (N := 20) hx hb hB lX4 hown hK hP 0 rfl rfl 10 (by decide) (hB _ zw_427) (fun _ h9 => h9) rfl d_md_point_118 ?_
            refine lv_iload_n (pc := 121) hx hb d_md_point_121 rfl (lv_at hl 4 rfl) ?_
            refine va_iald (pc := 122) hx hb hK hP 2 0 rfl rfl g6 d_md_point_122 ?_
            refine lv_goto (pc := 123) (tgt := 156) hx hb d_md_point_123 rfl ?_
            cases hm
            rw [hQ]
            exact W.iret (pc := 156) hx hb hr (fun t ht _ => ⟨rfl, by rw [ht]; exact hP, hS.F ht⟩) hS.2.2 d_md_point_156
          rw [if_pos h31] at hm
          refine lv_aload_n (pc := 103) hx hb d_md_point_103 rfl (lv_at hl 3 rfl) ?_
          refine va_get (pc := 104) (D := D) (ci := 4) (v := .ref qa) (C := "TorsionDeskModel") (T := tX4) (N := 20) hx hb hB lX4 hown hK hP 0 rfl rfl 9 (by decide) (hB _ zw_426) (fun _ h9 => h9) rfl d_md_point_104 ?_
          refine lv_iload_n (pc := 107) hx hb d_md_point_107 rfl (lv_at hl 4 rfl) ?_
          refine va_iald (pc := 108) hx hb hK hP 1 0 rfl rfl g6 d_md_point_108 ?_
          refine lv_goto (pc := 109) (tgt := 156) hx hb d_md_point_109 rfl ?_
          cases hm
          rw [hQ]
          exact W.iret (pc := 156) hx hb hr (fun t ht _ => ⟨rfl, by rw [ht]; exact hP, hS.F ht⟩) hS.2.2 d_md_point_156
        rw [if_pos h5] at hm
        refine lv_iconst (pc := 41) (v := (0 : Int32)) hx hb d_md_point_41 (by decide) ?_
        cases hm
        rw [hQ]
        exact W.iret (pc := 42) hx hb hr (fun t ht _ => ⟨rfl, by rw [ht]; exact hP, hS.F ht⟩) hS.2.2 d_md_point_42
      rw [if_pos h4] at hm
      refine lv_aload_n (pc := 30) hx hb d_md_point_30 rfl (lv_at hl 0 rfl) ?_
      refine va_get (pc := 31) (D := D) (ci := 4) (v := .ref qc) (C := "TorsionDeskModel") (T := tX4) (N := 20) hx hb hB lX4 hown hK hP 0 rfl rfl 11 (by decide) (hB _ zw_428) (fun _ h9 => h9) rfl d_md_point_31 ?_
      refine lv_iload_n (pc := 34) hx hb d_md_point_34 rfl (lv_at hl 1 rfl) ?_
      by_cases g38 : (i1 < 0 ∨ 40 ≤ i1.toNatClampNeg)
      · rw [if_pos g38] at hm; cases hm
      rw [if_neg g38] at hm
      refine va_iald (pc := 35) hx hb hK hP 3 0 rfl rfl g38 d_md_point_35 ?_
      cases hm
      rw [hQ]
      exact W.iret (pc := 36) hx hb hr (fun t ht _ => ⟨rfl, by rw [ht]; exact hP, hS.F ht⟩) hS.2.2 d_md_point_36
    rw [if_neg h3] at hm
    refine lv_iconst (pc := 23) (v := (0 : Int32)) hx hb d_md_point_23 (by decide) ?_
    cases hm
    rw [hQ]
    exact W.iret (pc := 24) hx hb hr (fun t ht _ => ⟨rfl, by rw [ht]; exact hP, hS.F ht⟩) hS.2.2 d_md_point_24
  exact main s.heap [] hP hD hS
abbrev rm_md_find : Room := { frames := 1, cells := 0, slots := 0, locals := 25 }
def a_md_find (N : Nat) (mh : Int32) (mp : Int32) (pa : Nat → Int32) (pb : Nat → Int32) (i1 : Int32) (i2 : Int32) : Option (Int32 × Int32) := (if mh = 0 then (some ((-1 : Int32), (0 : Int32))) else ((a_md_number N mp pa pb i1.toInt64 i2.toInt64).bind (fun r_c17 => (some (r_c17, (0 : Int32))))))
set_option maxHeartbeats 4000000 in
set_option maxRecDepth 100000 in
theorem w_a_md_find (l : Launch) (D : va_G) (cI cJ : ClassId) (qm : Nat) (qa : Nat) (qb : Nat) (qc : Nat) (mt : Int32) (mh : Int32) (ma : Int32) (mc : Int32) (mp : Int32) (mz : Int32) (mw : Int32) (mr : Int32) (ml : Int32) (mf : Int32) (ms : Int32) (m1 : Int64) (m2 : Int64) (m3 : Int64) (m4 : Int64) (mx : Int64) (my : Int64) (pa : Nat → Int32) (pb : Nat → Int32) (po : Nat → Int32) (i1 : Int32) (i2 : Int32) (N : Nat) (r0 : Int32) (r1 : Int32) (hm : a_md_find N mh mp pa pb i1 i2 = some (r0, r1)) : Met l y_md_find zs_md_find rm_md_find (zPc [.ref qm, .int i1, .int i2] D [(qm, .inr (4, [.int mt, .int mh, .int ma, .int mc, .long m1, .long m2, .long m3, .long m4, .int mp, .ref qa, .ref qb, .ref qc, .int mz, .int mw, .long mx, .long my, .int mr, .int ml, .int mf, .int ms])), (qa, .inl (cI, 40, .inl pa)), (qb, .inl (cI, 40, .inl pb)), (qc, .inl (cI, 40, .inl po))] [(cI, .int), (cJ, .long)]) (zWr (some (.int r0)) D (zIn [(qm, .inr (4, [.int mt, .int mh, .int ma, .int mc, .long m1, .long m2, .long m3, .long m4, .int mp, .ref qa, .ref qb, .ref qc, .int mz, .int mw, .long mx, .long my, .int mr, .int ml, .int mf, .int ms])), (qa, .inl (cI, 40, .inl pa)), (qb, .inl (cI, 40, .inl pb)), (qc, .inl (cI, 40, .inl po))]) [(qm, .inr (4, [.int r1, .int mh, .int ma, .int mc, .long m1, .long m2, .long m3, .long m4, .int mp, .ref qa, .ref qb, .ref qc, .int mz, .int mw, .long mx, .long my, .int mr, .int ml, .int mf, .int ms])), (qa, .inl (cI, 40, .inl pa)), (qb, .inl (cI, 40, .inl pb)), (qc, .inl (cI, 40, .inl po))]) 0 0 (zIn [(qm, .inr (4, [.int mt, .int mh, .int ma, .int mc, .long m1, .long m2, .long m3, .long m4, .int mp, .ref qa, .ref qb, .ref qc, .int mz, .int mw, .long mx, .long my, .int mr, .int ml, .int mf, .int ms])), (qa, .inl (cI, 40, .inl pa)), (qb, .inl (cI, 40, .inl pb)), (qc, .inl (cI, 40, .inl po))]) := by
  refine zm (by decide) (Nat.le_of_ble_eq_true rfl) ?_
  intro p e s m args below meth c R Q hR hQ hargs hx hb hml hr hlocks hnm hB hown hP hK hD0 ls hl
  have hown : s.vm.findClass "TorsionDeskModel" = some m.cls := hown
  have hl : lv_has ls 3 [(0, .ref qm), (1, .int i1), (2, .int i2)] := hl
  obtain ⟨A, hA⟩ : ∃ A, A = zIn [(qm, .inr (4, [.int mt, .int mh, .int ma, .int mc, .long m1, .long m2, .long m3, .long m4, .int mp, .ref qa, .ref qb, .ref qc, .int mz, .int mw, .long mx, .long my, .int mr, .int ml, .int mf, .int ms])), (qa, .inl (cI, 40, .inl pa)), (qb, .inl (cI, 40, .inl pb)), (qc, .inl (cI, 40, .inl po))] := ⟨_, rfl⟩
  have hD : va_D A [(qm, .inr (4, [.int mt, .int mh, .int ma, .int mc, .long m1, .long m2, .long m3, .long m4, .int mp, .ref qa, .ref qb, .ref qc, .int mz, .int mw, .long mx, .long my, .int mr, .int ml, .int mf, .int ms])), (qa, .inl (cI, 40, .inl pa)), (qb, .inl (cI, 40, .inl pb)), (qc, .inl (cI, 40, .inl po))] := by rw [hA]; exact zIn_self hD0
  have hS : va_S A s.heap s.heap [] := va_S.rf
  rw [← hA] at hQ
  have main : ∀ (H : Heap) (locs : List Loc), va_P D vwCl [(qm, .inr (4, [.int mt, .int mh, .int ma, .int mc, .long m1, .long m2, .long m3, .long m4, .int mp, .ref qa, .ref qb, .ref qc, .int mz, .int mw, .long mx, .long my, .int mr, .int ml, .int mf, .int ms])), (qa, .inl (cI, 40, .inl pa)), (qb, .inl (cI, 40, .inl pb)), (qc, .inl (cI, 40, .inl po))] H → va_D A [(qm, .inr (4, [.int mt, .int mh, .int ma, .int mc, .long m1, .long m2, .long m3, .long m4, .int mp, .ref qa, .ref qb, .ref qc, .int mz, .int mw, .long mx, .long my, .int mr, .int ml, .int mf, .int ms])), (qa, .inl (cI, 40, .inl pa)), (qb, .inl (cI, 40, .inl pb)), (qc, .inl (cI, 40, .inl po))] → va_S A s.heap H locs → W p l e R s m args below meth c H locs 0 0 Q (F0 m 0 ls []) := by
    intro H locs hP hD hS
    rw [a_md_find] at hm
    refine lv_aload_n (pc := 0) hx hb d_md_find_0 rfl (lv_at hl 0 rfl) ?_
    refine lv_iconst (pc := 1) (v := (0 : Int32)) hx hb d_md_find_1 (by decide) ?_
    refine va_put (pc := 2) (D := D) (ci := 4) (v := .int (0 : Int32)) (ty := .int) (C := "TorsionDeskModel") (T := tX4) (N := 20) hx hb hB lX4 yX4 yX4_ok nX4 hown hK hP hD hS 0 rfl rfl 0 (by decide) (hB _ zw_417) (fun _ h9 => h9) rfl (by decide +kernel) rfl rfl (Nat.le_of_ble_eq_true rfl) d_md_find_2 (fun H locs hP hD hS => ?_)
    have hP : va_P D vwCl [(qm, .inr (4, [.int (0 : Int32), .int mh, .int ma, .int mc, .long m1, .long m2, .long m3, .long m4, .int mp, .ref qa, .ref qb, .ref qc, .int mz, .int mw, .long mx, .long my, .int mr, .int ml, .int mf, .int ms])), (qa, .inl (cI, 40, .inl pa)), (qb, .inl (cI, 40, .inl pb)), (qc, .inl (cI, 40, .inl po))] H := hP
    have hD : va_D A [(qm, .inr (4, [.int (0 : Int32), .int mh, .int ma, .int mc, .long m1, .long m2, .long m3, .long m4, .int mp, .ref qa, .ref qb, .ref qc, .int mz, .int mw, .long mx, .long my, .int mr, .int ml, .int mf, .int ms])), (qa, .inl (cI, 40, .inl pa)), (qb, .inl (cI, 40, .inl pb)), (qc, .inl (cI, 40, .inl po))] := hD
    refine lv_aload_n (pc := 5) hx hb d_md_find_5 rfl (lv_at hl 0 rfl) ?_
    refine va_get (pc := 6) (D := D) (ci := 4) (v := .int mh) (C := "TorsionDeskModel") (T := tX4) (N := 20) hx hb hB lX4 hown hK hP 0 rfl rfl 1 (by decide) (hB _ zw_418) (fun _ h9 => h9) rfl d_md_find_6 ?_
    refine lv_if_eq (pc := 9) (tgt := 23) hx hb d_md_find_9 rfl (fun h1 => ?_) (fun h1 => ?_)
    · rw [if_pos h1] at hm
      refine lv_iconst (pc := 23) (v := (-1 : Int32)) hx hb d_md_find_23 (by decide) ?_
      cases hm
      rw [hQ]
      exact W.iret (pc := 24) hx hb hr (fun t ht _ => ⟨rfl, by rw [ht]; exact hP, hS.F ht⟩) hS.2.2 d_md_find_24
    rw [if_neg h1] at hm
    refine lv_aload_n (pc := 12) hx hb d_md_find_12 rfl (lv_at hl 0 rfl) ?_
    refine lv_iload_n (pc := 13) hx hb d_md_find_13 rfl (lv_at hl 1 rfl) ?_
    refine lv_i2l (pc := 14) hx hb d_md_find_14 rfl ?_
    refine lv_iload_n (pc := 15) hx hb d_md_find_15 rfl (lv_at hl 2 rfl) ?_
    refine lv_i2l (pc := 16) hx hb d_md_find_16 rfl ?_
    obtain ⟨r_c17, c2, hm⟩ := zbind hm
    try dsimp only at hm
    refine zcV (pc := 17) (As := [.long i1.toInt64, .long i2.toInt64]) (rest := []) ⟨hx, hb, hml, hown, hB⟩ (w_a_md_number l D cI cJ qm qa qb qc (0 : Int32) mh ma mc mp mz mw mr ml mf ms m1 m2 m3 m4 mx my pa pb po i1.toInt64 i2.toInt64 N r_c17 c2) (cwV 2 hB (zgV zw_527 zw_529 zv_md_number zw_5 zw_530) rfl rfl rfl (by decide +kernel) ⟨by rw [hR]; exact Nat.le_of_ble_eq_true rfl, by rw [hR]; exact Nat.le_of_ble_eq_true rfl⟩) hK (hP.sub (ws' := [(qm, .inr (4, [.int (0 : Int32), .int mh, .int ma, .int mc, .long m1, .long m2, .long m3, .long m4, .int mp, .ref qa, .ref qb, .ref qc, .int mz, .int mw, .long mx, .long my, .int mr, .int ml, .int mf, .int ms])), (qa, .inl (cI, 40, .inl pa)), (qb, .inl (cI, 40, .inl pb)), (qc, .inl (cI, 40, .inl po))]) [0, 1, 2, 3] rfl) (hD.sub (ws' := [(qm, .inr (4, [.int (0 : Int32), .int mh, .int ma, .int mc, .long m1, .long m2, .long m3, .long m4, .int mp, .ref qa, .ref qb, .ref qc, .int mz, .int mw, .long mx, .long my, .int mr, .int ml, .int mf, .int ms])), (qa, .inl (cI, 40, .inl pa)), (qb, .inl (cI, 40, .inl pb)), (qc, .inl (cI, 40, .inl po))]) [0, 1, 2, 3] (by decide) rfl) rfl rfl rfl rfl hl.1 rfl (Nat.le_of_ble_eq_true rfl) d_md_find_17 ⟨Nat.zero_le _, Nat.zero_le _⟩ ?_
    refine lv_goto (pc := 20) (tgt := 24) hx hb d_md_find_20 rfl ?_
    cases hm
    rw [hQ]
    exact W.iret (pc := 24) hx hb hr (fun t ht _ => ⟨rfl, by rw [ht]; exact hP, hS.F ht⟩) hS.2.2 d_md_find_24
  exact main s.heap [] hP hD hS
abbrev rm_md_sum : Room := { frames := 2, cells := 0, slots := 0, locals := 60 }
def a_md_sum (N : Nat) (mh : Int32) (mp : Int32) (mz : Int32) (mw : Int32) (m1 : Int64) (m2 : Int64) (mx : Int64) (my : Int64) (pa : Nat → Int32) (pb : Nat → Int32) (i1 : Int32) (i2 : Int32) : Option (Int32 × Int32 × Int32 × Int32 × Int64 × Int64) := (if (a_md_isPoint mh mp i1) = 0 then (some ((-1 : Int32), (0 : Int32), mz, mw, mx, my)) else (if (a_md_isPoint mh mp i2) = 0 then (some ((-1 : Int32), (0 : Int32), mz, mw, mx, my)) else ((a_md_sumOf N mp mz mw m1 m2 mx my pa pb i1 i2).bind (fun (r_c24, o0_12_c24, o0_13_c24, o0_14_c24, o0_15_c24) => (some (r_c24, (0 : Int32), o0_12_c24, o0_13_c24, o0_14_c24, o0_15_c24))))))
set_option maxHeartbeats 4000000 in
set_option maxRecDepth 100000 in
theorem w_a_md_sum (l : Launch) (D : va_G) (cI cJ : ClassId) (qm : Nat) (qa : Nat) (qb : Nat) (qc : Nat) (mt : Int32) (mh : Int32) (ma : Int32) (mc : Int32) (mp : Int32) (mz : Int32) (mw : Int32) (mr : Int32) (ml : Int32) (mf : Int32) (ms : Int32) (m1 : Int64) (m2 : Int64) (m3 : Int64) (m4 : Int64) (mx : Int64) (my : Int64) (pa : Nat → Int32) (pb : Nat → Int32) (po : Nat → Int32) (i1 : Int32) (i2 : Int32) (N : Nat) (r0 : Int32) (r1 : Int32) (r2 : Int32) (r3 : Int32) (r4 : Int64) (r5 : Int64) (hm : a_md_sum N mh mp mz mw m1 m2 mx my pa pb i1 i2 = some (r0, r1, r2, r3, r4, r5)) : Met l y_md_sum zs_md_sum rm_md_sum (zPc [.ref qm, .int i1, .int i2] D [(qm, .inr (4, [.int mt, .int mh, .int ma, .int mc, .long m1, .long m2, .long m3, .long m4, .int mp, .ref qa, .ref qb, .ref qc, .int mz, .int mw, .long mx, .long my, .int mr, .int ml, .int mf, .int ms])), (qa, .inl (cI, 40, .inl pa)), (qb, .inl (cI, 40, .inl pb)), (qc, .inl (cI, 40, .inl po))] [(cI, .int), (cJ, .long)]) (zWr (some (.int r0)) D (zIn [(qm, .inr (4, [.int mt, .int mh, .int ma, .int mc, .long m1, .long m2, .long m3, .long m4, .int mp, .ref qa, .ref qb, .ref qc, .int mz, .int mw, .long mx, .long my, .int mr, .int ml, .int mf, .int ms])), (qa, .inl (cI, 40, .inl pa)), (qb, .inl (cI, 40, .inl pb)), (qc, .inl (cI, 40, .inl po))]) [(qm, .inr (4, [.int r1, .int mh, .int ma, .int mc, .long m1, .long m2, .long m3, .long m4, .int mp, .ref qa, .ref qb, .ref qc, .int r2, .int r3, .long r4, .long r5, .int mr, .int ml, .int mf, .int ms])), (qa, .inl (cI, 40, .inl pa)), (qb, .inl (cI, 40, .inl pb)), (qc, .inl (cI, 40, .inl po))]) 0 0 (zIn [(qm, .inr (4, [.int mt, .int mh, .int ma, .int mc, .long m1, .long m2, .long m3, .long m4, .int mp, .ref qa, .ref qb, .ref qc, .int mz, .int mw, .long mx, .long my, .int mr, .int ml, .int mf, .int ms])), (qa, .inl (cI, 40, .inl pa)), (qb, .inl (cI, 40, .inl pb)), (qc, .inl (cI, 40, .inl po))]) := by
  refine zm (by decide) (Nat.le_of_ble_eq_true rfl) ?_
  intro p e s m args below meth c R Q hR hQ hargs hx hb hml hr hlocks hnm hB hown hP hK hD0 ls hl
  have hown : s.vm.findClass "TorsionDeskModel" = some m.cls := hown
  have hl : lv_has ls 3 [(0, .ref qm), (1, .int i1), (2, .int i2)] := hl
  obtain ⟨A, hA⟩ : ∃ A, A = zIn [(qm, .inr (4, [.int mt, .int mh, .int ma, .int mc, .long m1, .long m2, .long m3, .long m4, .int mp, .ref qa, .ref qb, .ref qc, .int mz, .int mw, .long mx, .long my, .int mr, .int ml, .int mf, .int ms])), (qa, .inl (cI, 40, .inl pa)), (qb, .inl (cI, 40, .inl pb)), (qc, .inl (cI, 40, .inl po))] := ⟨_, rfl⟩
  have hD : va_D A [(qm, .inr (4, [.int mt, .int mh, .int ma, .int mc, .long m1, .long m2, .long m3, .long m4, .int mp, .ref qa, .ref qb, .ref qc, .int mz, .int mw, .long mx, .long my, .int mr, .int ml, .int mf, .int ms])), (qa, .inl (cI, 40, .inl pa)), (qb, .inl (cI, 40, .inl pb)), (qc, .inl (cI, 40, .inl po))] := by rw [hA]; exact zIn_self hD0
  have hS : va_S A s.heap s.heap [] := va_S.rf
  rw [← hA] at hQ
  have main : ∀ (H : Heap) (locs : List Loc), va_P D vwCl [(qm, .inr (4, [.int mt, .int mh, .int ma, .int mc, .long m1, .long m2, .long m3, .long m4, .int mp, .ref qa, .ref qb, .ref qc, .int mz, .int mw, .long mx, .long my, .int mr, .int ml, .int mf, .int ms])), (qa, .inl (cI, 40, .inl pa)), (qb, .inl (cI, 40, .inl pb)), (qc, .inl (cI, 40, .inl po))] H → va_D A [(qm, .inr (4, [.int mt, .int mh, .int ma, .int mc, .long m1, .long m2, .long m3, .long m4, .int mp, .ref qa, .ref qb, .ref qc, .int mz, .int mw, .long mx, .long my, .int mr, .int ml, .int mf, .int ms])), (qa, .inl (cI, 40, .inl pa)), (qb, .inl (cI, 40, .inl pb)), (qc, .inl (cI, 40, .inl po))] → va_S A s.heap H locs → W p l e R s m args below meth c H locs 0 0 Q (F0 m 0 ls []) := by
    intro H locs hP hD hS
    rw [a_md_sum] at hm
    refine lv_aload_n (pc := 0) hx hb d_md_sum_0 rfl (lv_at hl 0 rfl) ?_
    refine lv_iconst (pc := 1) (v := (0 : Int32)) hx hb d_md_sum_1 (by decide) ?_
    refine va_put (pc := 2) (D := D) (ci := 4) (v := .int (0 : Int32)) (ty := .int) (C := "TorsionDeskModel") (T := tX4) (N := 20) hx hb hB lX4 yX4 yX4_ok nX4 hown hK hP hD hS 0 rfl rfl 0 (by decide) (hB _ zw_417) (fun _ h9 => h9) rfl (by decide +kernel) rfl rfl (Nat.le_of_ble_eq_true rfl) d_md_sum_2 (fun H locs hP hD hS => ?_)
    have hP : va_P D vwCl [(qm, .inr (4, [.int (0 : Int32), .int mh, .int ma, .int mc, .long m1, .long m2, .long m3, .long m4, .int mp, .ref qa, .ref qb, .ref qc, .int mz, .int mw, .long mx, .long my, .int mr, .int ml, .int mf, .int ms])), (qa, .inl (cI, 40, .inl pa)), (qb, .inl (cI, 40, .inl pb)), (qc, .inl (cI, 40, .inl po))] H := hP
    have hD : va_D A [(qm, .inr (4, [.int (0 : Int32), .int mh, .int ma, .int mc, .long m1, .long m2, .long m3, .long m4, .int mp, .ref qa, .ref qb, .ref qc, .int mz, .int mw, .long mx, .long my, .int mr, .int ml, .int mf, .int ms])), (qa, .inl (cI, 40, .inl pa)), (qb, .inl (cI, 40, .inl pb)), (qc, .inl (cI, 40, .inl po))] := hD
    refine lv_aload_n (pc := 5) hx hb d_md_sum_5 rfl (lv_at hl 0 rfl) ?_
    refine lv_iload_n (pc := 6) hx hb d_md_sum_6 rfl (lv_at hl 1 rfl) ?_
    refine zcV (pc := 7) (As := [.int i1]) (rest := []) ⟨hx, hb, hml, hown, hB⟩ (w_a_md_isPoint l D cI cJ qm qa qb qc (0 : Int32) mh ma mc mp mz mw mr ml mf ms m1 m2 m3 m4 mx my pa pb po i1 _ rfl) (cwV 1 hB (zgV zw_551 zw_553 zv_md_isPoint zw_5 zw_554) rfl rfl rfl (by decide +kernel) ⟨by rw [hR]; exact Nat.le_of_ble_eq_true rfl, by rw [hR]; exact Nat.le_of_ble_eq_true rfl⟩) hK (hP.sub (ws' := [(qm, .inr (4, [.int (0 : Int32), .int mh, .int ma, .int mc, .long m1, .long m2, .long m3, .long m4, .int mp, .ref qa, .ref qb, .ref qc, .int mz, .int mw, .long mx, .long my, .int mr, .int ml, .int mf, .int ms])), (qa, .inl (cI, 40, .inl pa)), (qb, .inl (cI, 40, .inl pb)), (qc, .inl (cI, 40, .inl po))]) [0, 1, 2, 3] rfl) (hD.sub (ws' := [(qm, .inr (4, [.int (0 : Int32), .int mh, .int ma, .int mc, .long m1, .long m2, .long m3, .long m4, .int mp, .ref qa, .ref qb, .ref qc, .int mz, .int mw, .long mx, .long my, .int mr, .int ml, .int mf, .int ms])), (qa, .inl (cI, 40, .inl pa)), (qb, .inl (cI, 40, .inl pb)), (qc, .inl (cI, 40, .inl po))]) [0, 1, 2, 3] (by decide) rfl) rfl rfl rfl rfl hl.1 rfl (Nat.le_of_ble_eq_true rfl) d_md_sum_7 ⟨Nat.zero_le _, Nat.zero_le _⟩ ?_
    refine lv_if_eq (pc := 10) (tgt := 30) hx hb d_md_sum_10 rfl (fun h1 => ?_) (fun h1 => ?_)
    · rw [if_pos h1] at hm
      refine lv_iconst (pc := 30) (v := (-1 : Int32)) hx hb d_md_sum_30 (by decide) ?_
      cases hm
      rw [hQ]
      exact W.iret (pc := 31) hx hb hr (fun t ht _ => ⟨rfl, by rw [ht]; exact hP, hS.F ht⟩) hS.2.2 d_md_sum_31
    rw [if_neg h1] at hm
    refine lv_aload_n (pc := 13) hx hb d_md_sum_13 rfl (lv_at hl 0 rfl) ?_
    refine lv_iload_n (pc := 14) hx hb d_md_sum_14 rfl (lv_at hl 2 rfl) ?_
    refine zcV (pc := 15) (As := [.int i2]) (rest := []) ⟨hx, hb, hml, hown, hB⟩ (w_a_md_isPoint l D cI cJ qm qa qb qc (0 : Int32) mh ma mc mp mz mw mr ml mf ms m1 m2 m3 m4 mx my pa pb po i2 _ rfl) (cwV 1 hB (zgV zw_551 zw_553 zv_md_isPoint zw_5 zw_554) rfl rfl rfl (by decide +kernel) ⟨by rw [hR]; exact Nat.le_of_ble_eq_true rfl, by rw [hR]; exact Nat.le_of_ble_eq_true rfl⟩) hK (hP.sub (ws' := [(qm, .inr (4, [.int (0 : Int32), .int mh, .int ma, .int mc, .long m1, .long m2, .long m3, .long m4, .int mp, .ref qa, .ref qb, .ref qc, .int mz, .int mw, .long mx, .long my, .int mr, .int ml, .int mf, .int ms])), (qa, .inl (cI, 40, .inl pa)), (qb, .inl (cI, 40, .inl pb)), (qc, .inl (cI, 40, .inl po))]) [0, 1, 2, 3] rfl) (hD.sub (ws' := [(qm, .inr (4, [.int (0 : Int32), .int mh, .int ma, .int mc, .long m1, .long m2, .long m3, .long m4, .int mp, .ref qa, .ref qb, .ref qc, .int mz, .int mw, .long mx, .long my, .int mr, .int ml, .int mf, .int ms])), (qa, .inl (cI, 40, .inl pa)), (qb, .inl (cI, 40, .inl pb)), (qc, .inl (cI, 40, .inl po))]) [0, 1, 2, 3] (by decide) rfl) rfl rfl rfl rfl hl.1 rfl (Nat.le_of_ble_eq_true rfl) d_md_sum_15 ⟨Nat.zero_le _, Nat.zero_le _⟩ ?_
    refine lv_if_eq (pc := 18) (tgt := 30) hx hb d_md_sum_18 rfl (fun h2 => ?_) (fun h2 => ?_)
    · rw [if_pos h2] at hm
      refine lv_iconst (pc := 30) (v := (-1 : Int32)) hx hb d_md_sum_30 (by decide) ?_
      cases hm
      rw [hQ]
      exact W.iret (pc := 31) hx hb hr (fun t ht _ => ⟨rfl, by rw [ht]; exact hP, hS.F ht⟩) hS.2.2 d_md_sum_31
    rw [if_neg h2] at hm
    refine lv_aload_n (pc := 21) hx hb d_md_sum_21 rfl (lv_at hl 0 rfl) ?_
    refine lv_iload_n (pc := 22) hx hb d_md_sum_22 rfl (lv_at hl 1 rfl) ?_
    refine lv_iload_n (pc := 23) hx hb d_md_sum_23 rfl (lv_at hl 2 rfl) ?_
    obtain ⟨⟨r_c24, o0_12_c24, o0_13_c24, o0_14_c24, o0_15_c24⟩, c3, hm⟩ := zbind hm
    try dsimp only at hm
    refine zwV (pc := 24) (As := [.int i1, .int i2]) (rest := []) ⟨hx, hb, hml, hown, hB⟩ (w_a_md_sumOf l D cI cJ qm qa qb qc (0 : Int32) mh ma mc mp mz mw mr ml mf ms m1 m2 m3 m4 mx my pa pb po i1 i2 N r_c24 o0_12_c24 o0_13_c24 o0_14_c24 o0_15_c24 c3) (cwV 2 hB (zgV zw_523 zw_525 zv_md_sumOf zw_5 zw_526) rfl rfl rfl (by decide +kernel) ⟨by rw [hR]; exact Nat.le_of_ble_eq_true rfl, by rw [hR]; exact Nat.le_of_ble_eq_true rfl⟩) hK hP hD hS [0, 1, 2, 3] (by decide) rfl rfl rfl rfl rfl rfl hl.1 rfl (Nat.le_of_ble_eq_true rfl) d_md_sum_24 ⟨Nat.zero_le _, Nat.zero_le _⟩ (fun H locs hP hD hS => ?_)
    have hP : va_P D vwCl [(qm, .inr (4, [.int (0 : Int32), .int mh, .int ma, .int mc, .long m1, .long m2, .long m3, .long m4, .int mp, .ref qa, .ref qb, .ref qc, .int o0_12_c24, .int o0_13_c24, .long o0_14_c24, .long o0_15_c24, .int mr, .int ml, .int mf, .int ms])), (qa, .inl (cI, 40, .inl pa)), (qb, .inl (cI, 40, .inl pb)), (qc, .inl (cI, 40, .inl po))] H := hP
    have hD : va_D A [(qm, .inr (4, [.int (0 : Int32), .int mh, .int ma, .int mc, .long m1, .long m2, .long m3, .long m4, .int mp, .ref qa, .ref qb, .ref qc, .int o0_12_c24, .int o0_13_c24, .long o0_14_c24, .long o0_15_c24, .int mr, .int ml, .int mf, .int ms])), (qa, .inl (cI, 40, .inl pa)), (qb, .inl (cI, 40, .inl pb)), (qc, .inl (cI, 40, .inl po))] := hD
    refine lv_goto (pc := 27) (tgt := 31) hx hb d_md_sum_27 rfl ?_
    cases hm
    rw [hQ]
    exact W.iret (pc := 31) hx hb hr (fun t ht _ => ⟨rfl, by rw [ht]; exact hP, hS.F ht⟩) hS.2.2 d_md_sum_31
  exact main s.heap [] hP hD hS
abbrev rm_md_times : Room := { frames := 3, cells := 0, slots := 0, locals := 84 }
def a_md_times (N : Nat) (mh : Int32) (mp : Int32) (mz : Int32) (mw : Int32) (m1 : Int64) (m2 : Int64) (mx : Int64) (my : Int64) (pa : Nat → Int32) (pb : Nat → Int32) (po : Nat → Int32) (i1 : Int32) (i2 : Int32) : Option (Int32 × Int32 × Int32 × Int32 × Int64 × Int64) := (if (a_md_isPoint mh mp i2) = 0 then (some ((-1 : Int32), (0 : Int32), mz, mw, mx, my)) else (if (i2 < 0 ∨ 40 ≤ i2.toNatClampNeg) then none else (if (po i2.toNatClampNeg) = 0 then none else (if 0 ≤ (i1 - i1 / (po i2.toNatClampNeg) * (po i2.toNatClampNeg)) then ((a_md_multiple N mp mz mw m1 m2 mx my pa pb (i1 - i1 / (po i2.toNatClampNeg) * (po i2.toNatClampNeg)) i2).bind (fun (r_c42, o0_12_c42, o0_13_c42, o0_14_c42, o0_15_c42) => (some (r_c42, (0 : Int32), o0_12_c42, o0_13_c42, o0_14_c42, o0_15_c42)))) else ((a_md_multiple N mp mz mw m1 m2 mx my pa pb ((i1 - i1 / (po i2.toNatClampNeg) * (po i2.toNatClampNeg)) + (po i2.toNatClampNeg)) i2).bind (fun (r_c42, o0_12_c42, o0_13_c42, o0_14_c42, o0_15_c42) => (some (r_c42, (0 : Int32), o0_12_c42, o0_13_c42, o0_14_c42, o0_15_c42))))))))
set_option maxHeartbeats 4000000 in
set_option maxRecDepth 100000 in
theorem w_a_md_times (l : Launch) (D : va_G) (cI cJ : ClassId) (qm : Nat) (qa : Nat) (qb : Nat) (qc : Nat) (mt : Int32) (mh : Int32) (ma : Int32) (mc : Int32) (mp : Int32) (mz : Int32) (mw : Int32) (mr : Int32) (ml : Int32) (mf : Int32) (ms : Int32) (m1 : Int64) (m2 : Int64) (m3 : Int64) (m4 : Int64) (mx : Int64) (my : Int64) (pa : Nat → Int32) (pb : Nat → Int32) (po : Nat → Int32) (i1 : Int32) (i2 : Int32) (N : Nat) (r0 : Int32) (r1 : Int32) (r2 : Int32) (r3 : Int32) (r4 : Int64) (r5 : Int64) (hm : a_md_times N mh mp mz mw m1 m2 mx my pa pb po i1 i2 = some (r0, r1, r2, r3, r4, r5)) : Met l y_md_times zs_md_times rm_md_times (zPc [.ref qm, .int i1, .int i2] D [(qm, .inr (4, [.int mt, .int mh, .int ma, .int mc, .long m1, .long m2, .long m3, .long m4, .int mp, .ref qa, .ref qb, .ref qc, .int mz, .int mw, .long mx, .long my, .int mr, .int ml, .int mf, .int ms])), (qa, .inl (cI, 40, .inl pa)), (qb, .inl (cI, 40, .inl pb)), (qc, .inl (cI, 40, .inl po))] [(cI, .int), (cJ, .long)]) (zWr (some (.int r0)) D (zIn [(qm, .inr (4, [.int mt, .int mh, .int ma, .int mc, .long m1, .long m2, .long m3, .long m4, .int mp, .ref qa, .ref qb, .ref qc, .int mz, .int mw, .long mx, .long my, .int mr, .int ml, .int mf, .int ms])), (qa, .inl (cI, 40, .inl pa)), (qb, .inl (cI, 40, .inl pb)), (qc, .inl (cI, 40, .inl po))]) [(qm, .inr (4, [.int r1, .int mh, .int ma, .int mc, .long m1, .long m2, .long m3, .long m4, .int mp, .ref qa, .ref qb, .ref qc, .int r2, .int r3, .long r4, .long r5, .int mr, .int ml, .int mf, .int ms])), (qa, .inl (cI, 40, .inl pa)), (qb, .inl (cI, 40, .inl pb)), (qc, .inl (cI, 40, .inl po))]) 0 0 (zIn [(qm, .inr (4, [.int mt, .int mh, .int ma, .int mc, .long m1, .long m2, .long m3, .long m4, .int mp, .ref qa, .ref qb, .ref qc, .int mz, .int mw, .long mx, .long my, .int mr, .int ml, .int mf, .int ms])), (qa, .inl (cI, 40, .inl pa)), (qb, .inl (cI, 40, .inl pb)), (qc, .inl (cI, 40, .inl po))]) := by
  refine zm (by decide) (Nat.le_of_ble_eq_true rfl) ?_
  intro p e s m args below meth c R Q hR hQ hargs hx hb hml hr hlocks hnm hB hown hP hK hD0 ls hl
  have hown : s.vm.findClass "TorsionDeskModel" = some m.cls := hown
  have hl : lv_has ls 4 [(0, .ref qm), (1, .int i1), (2, .int i2)] := hl
  obtain ⟨A, hA⟩ : ∃ A, A = zIn [(qm, .inr (4, [.int mt, .int mh, .int ma, .int mc, .long m1, .long m2, .long m3, .long m4, .int mp, .ref qa, .ref qb, .ref qc, .int mz, .int mw, .long mx, .long my, .int mr, .int ml, .int mf, .int ms])), (qa, .inl (cI, 40, .inl pa)), (qb, .inl (cI, 40, .inl pb)), (qc, .inl (cI, 40, .inl po))] := ⟨_, rfl⟩
  have hD : va_D A [(qm, .inr (4, [.int mt, .int mh, .int ma, .int mc, .long m1, .long m2, .long m3, .long m4, .int mp, .ref qa, .ref qb, .ref qc, .int mz, .int mw, .long mx, .long my, .int mr, .int ml, .int mf, .int ms])), (qa, .inl (cI, 40, .inl pa)), (qb, .inl (cI, 40, .inl pb)), (qc, .inl (cI, 40, .inl po))] := by rw [hA]; exact zIn_self hD0
  have hS : va_S A s.heap s.heap [] := va_S.rf
  rw [← hA] at hQ
  have main : ∀ (H : Heap) (locs : List Loc), va_P D vwCl [(qm, .inr (4, [.int mt, .int mh, .int ma, .int mc, .long m1, .long m2, .long m3, .long m4, .int mp, .ref qa, .ref qb, .ref qc, .int mz, .int mw, .long mx, .long my, .int mr, .int ml, .int mf, .int ms])), (qa, .inl (cI, 40, .inl pa)), (qb, .inl (cI, 40, .inl pb)), (qc, .inl (cI, 40, .inl po))] H → va_D A [(qm, .inr (4, [.int mt, .int mh, .int ma, .int mc, .long m1, .long m2, .long m3, .long m4, .int mp, .ref qa, .ref qb, .ref qc, .int mz, .int mw, .long mx, .long my, .int mr, .int ml, .int mf, .int ms])), (qa, .inl (cI, 40, .inl pa)), (qb, .inl (cI, 40, .inl pb)), (qc, .inl (cI, 40, .inl po))] → va_S A s.heap H locs → W p l e R s m args below meth c H locs 0 0 Q (F0 m 0 ls []) := by
    intro H locs hP hD hS
    rw [a_md_times] at hm
    refine lv_aload_n (pc := 0) hx hb d_md_times_0 rfl (lv_at hl 0 rfl) ?_
    refine lv_iconst (pc := 1) (v := (0 : Int32)) hx hb d_md_times_1 (by decide) ?_
    refine va_put (pc := 2) (D := D) (ci := 4) (v := .int (0 : Int32)) (ty := .int) (C := "TorsionDeskModel") (T := tX4) (N := 20) hx hb hB lX4 yX4 yX4_ok nX4 hown hK hP hD hS 0 rfl rfl 0 (by decide) (hB _ zw_417) (fun _ h9 => h9) rfl (by decide +kernel) rfl rfl (Nat.le_of_ble_eq_true rfl) d_md_times_2 (fun H locs hP hD hS => ?_)
    have hP : va_P D vwCl [(qm, .inr (4, [.int (0 : Int32), .int mh, .int ma, .int mc, .long m1, .long m2, .long m3, .long m4, .int mp, .ref qa, .ref qb, .ref qc, .int mz, .int mw, .long mx, .long my, .int mr, .int ml, .int mf, .int ms])), (qa, .inl (cI, 40, .inl pa)), (qb, .inl (cI, 40, .inl pb)), (qc, .inl (cI, 40, .inl po))] H := hP
    have hD : va_D A [(qm, .inr (4, [.int (0 : Int32), .int mh, .int ma, .int mc, .long m1, .long m2, .long m3, .long m4, .int mp, .ref qa, .ref qb, .ref qc, .int mz, .int mw, .long mx, .long my, .int mr, .int ml, .int mf, .int ms])), (qa, .inl (cI, 40, .inl pa)), (qb, .inl (cI, 40, .inl pb)), (qc, .inl (cI, 40, .inl po))] := hD
    refine lv_aload_n (pc := 5) hx hb d_md_times_5 rfl (lv_at hl 0 rfl) ?_
    refine lv_iload_n (pc := 6) hx hb d_md_times_6 rfl (lv_at hl 2 rfl) ?_
    refine zcV (pc := 7) (As := [.int i2]) (rest := []) ⟨hx, hb, hml, hown, hB⟩ (w_a_md_isPoint l D cI cJ qm qa qb qc (0 : Int32) mh ma mc mp mz mw mr ml mf ms m1 m2 m3 m4 mx my pa pb po i2 _ rfl) (cwV 1 hB (zgV zw_551 zw_553 zv_md_isPoint zw_5 zw_554) rfl rfl rfl (by decide +kernel) ⟨by rw [hR]; exact Nat.le_of_ble_eq_true rfl, by rw [hR]; exact Nat.le_of_ble_eq_true rfl⟩) hK (hP.sub (ws' := [(qm, .inr (4, [.int (0 : Int32), .int mh, .int ma, .int mc, .long m1, .long m2, .long m3, .long m4, .int mp, .ref qa, .ref qb, .ref qc, .int mz, .int mw, .long mx, .long my, .int mr, .int ml, .int mf, .int ms])), (qa, .inl (cI, 40, .inl pa)), (qb, .inl (cI, 40, .inl pb)), (qc, .inl (cI, 40, .inl po))]) [0, 1, 2, 3] rfl) (hD.sub (ws' := [(qm, .inr (4, [.int (0 : Int32), .int mh, .int ma, .int mc, .long m1, .long m2, .long m3, .long m4, .int mp, .ref qa, .ref qb, .ref qc, .int mz, .int mw, .long mx, .long my, .int mr, .int ml, .int mf, .int ms])), (qa, .inl (cI, 40, .inl pa)), (qb, .inl (cI, 40, .inl pb)), (qc, .inl (cI, 40, .inl po))]) [0, 1, 2, 3] (by decide) rfl) rfl rfl rfl rfl hl.1 rfl (Nat.le_of_ble_eq_true rfl) d_md_times_7 ⟨Nat.zero_le _, Nat.zero_le _⟩ ?_
    refine lv_if_ne (pc := 10) (tgt := 15) hx hb d_md_times_10 rfl (fun h1 => ?_) (fun h1 => ?_)
    · rw [if_neg h1] at hm
      refine lv_iload_n (pc := 15) hx hb d_md_times_15 rfl (lv_at hl 1 rfl) ?_
      refine lv_aload_n (pc := 16) hx hb d_md_times_16 rfl (lv_at hl 0 rfl) ?_
      refine va_get (pc := 17) (D := D) (ci := 4) (v := .ref qc) (C := "TorsionDeskModel") (T := tX4) (N := 20) hx hb hB lX4 hown hK hP 0 rfl rfl 11 (by decide) (hB _ zw_428) (fun _ h9 => h9) rfl d_md_times_17 ?_
      refine lv_iload_n (pc := 20) hx hb d_md_times_20 rfl (lv_at hl 2 rfl) ?_
      by_cases g2 : (i2 < 0 ∨ 40 ≤ i2.toNatClampNeg)
      · rw [if_pos g2] at hm; cases hm
      rw [if_neg g2] at hm
      refine va_iald (pc := 21) hx hb hK hP 3 0 rfl rfl g2 d_md_times_21 ?_
      by_cases g3 : (po i2.toNatClampNeg) = 0
      · rw [if_pos g3] at hm; cases hm
      rw [if_neg g3] at hm
      refine lv_irem (pc := 22) hx hb d_md_times_22 g3 ?_
      refine lv_istore_n (pc := 23) (lv' := [(3, .int (i1 - i1 / (po i2.toNatClampNeg) * (po i2.toNatClampNeg))), (0, .ref qm), (1, .int i1), (2, .int i2)]) hx hb d_md_times_23 rfl hl (Nat.le_of_ble_eq_true rfl) rfl (fun ls hl => ?_)
      refine lv_aload_n (pc := 24) hx hb d_md_times_24 rfl (lv_at hl 1 rfl) ?_
      refine lv_iload_n (pc := 25) hx hb d_md_times_25 rfl (lv_at hl 0 rfl) ?_
      refine lv_if_ge (pc := 26) (tgt := 40) hx hb d_md_times_26 rfl (fun h4 => ?_) (fun h4 => ?_)
      · rw [if_pos h4] at hm
        refine lv_iload_n (pc := 40) hx hb d_md_times_40 rfl (lv_at hl 0 rfl) ?_
        refine lv_iload_n (pc := 41) hx hb d_md_times_41 rfl (lv_at hl 3 rfl) ?_
        obtain ⟨⟨r_c42, o0_12_c42, o0_13_c42, o0_14_c42, o0_15_c42⟩, c5, hm⟩ := zbind hm
        try dsimp only at hm
        refine zwV (pc := 42) (As := [.int (i1 - i1 / (po i2.toNatClampNeg) * (po i2.toNatClampNeg)), .int i2]) (rest := []) ⟨hx, hb, hml, hown, hB⟩ (w_a_md_multiple l D cI cJ qm qa qb qc (0 : Int32) mh ma mc mp mz mw mr ml mf ms m1 m2 m3 m4 mx my pa pb po (i1 - i1 / (po i2.toNatClampNeg) * (po i2.toNatClampNeg)) i2 N r_c42 o0_12_c42 o0_13_c42 o0_14_c42 o0_15_c42 c5) (cwV 2 hB (zgV zw_570 zw_572 zv_md_multiple zw_5 zw_573) rfl rfl rfl (by decide +kernel) ⟨by rw [hR]; exact Nat.le_of_ble_eq_true rfl, by rw [hR]; exact Nat.le_of_ble_eq_true rfl⟩) hK hP hD hS [0, 1, 2, 3] (by decide) rfl rfl rfl rfl rfl rfl hl.1 rfl (Nat.le_of_ble_eq_true rfl) d_md_times_42 ⟨Nat.zero_le _, Nat.zero_le _⟩ (fun H locs hP hD hS => ?_)
        have hP : va_P D vwCl [(qm, .inr (4, [.int (0 : Int32), .int mh, .int ma, .int mc, .long m1, .long m2, .long m3, .long m4, .int mp, .ref qa, .ref qb, .ref qc, .int o0_12_c42, .int o0_13_c42, .long o0_14_c42, .long o0_15_c42, .int mr, .int ml, .int mf, .int ms])), (qa, .inl (cI, 40, .inl pa)), (qb, .inl (cI, 40, .inl pb)), (qc, .inl (cI, 40, .inl po))] H := hP
        have hD : va_D A [(qm, .inr (4, [.int (0 : Int32), .int mh, .int ma, .int mc, .long m1, .long m2, .long m3, .long m4, .int mp, .ref qa, .ref qb, .ref qc, .int o0_12_c42, .int o0_13_c42, .long o0_14_c42, .long o0_15_c42, .int mr, .int ml, .int mf, .int ms])), (qa, .inl (cI, 40, .inl pa)), (qb, .inl (cI, 40, .inl pb)), (qc, .inl (cI, 40, .inl po))] := hD
        cases hm
        rw [hQ]
        exact W.iret (pc := 45) hx hb hr (fun t ht _ => ⟨rfl, by rw [ht]; exact hP, hS.F ht⟩) hS.2.2 d_md_times_45
      rw [if_neg h4] at hm
      refine lv_iload_n (pc := 29) hx hb d_md_times_29 rfl (lv_at hl 0 rfl) ?_
      refine lv_aload_n (pc := 30) hx hb d_md_times_30 rfl (lv_at hl 1 rfl) ?_
      refine va_get (pc := 31) (D := D) (ci := 4) (v := .ref qc) (C := "TorsionDeskModel") (T := tX4) (N := 20) hx hb hB lX4 hown hK hP 0 rfl rfl 11 (by decide) (hB _ zw_428) (fun _ h9 => h9) rfl d_md_times_31 ?_
      refine lv_iload_n (pc := 34) hx hb d_md_times_34 rfl (lv_at hl 3 rfl) ?_
      refine va_iald (pc := 35) hx hb hK hP 3 0 rfl rfl g2 d_md_times_35 ?_
      refine lv_iadd (pc := 36) hx hb d_md_times_36 ?_
      refine lv_goto (pc := 37) (tgt := 41) hx hb d_md_times_37 rfl ?_
      refine lv_iload_n (pc := 41) hx hb d_md_times_41 rfl (lv_at hl 3 rfl) ?_
      obtain ⟨⟨r_c42, o0_12_c42, o0_13_c42, o0_14_c42, o0_15_c42⟩, c6, hm⟩ := zbind hm
      try dsimp only at hm
      refine zwV (pc := 42) (As := [.int ((i1 - i1 / (po i2.toNatClampNeg) * (po i2.toNatClampNeg)) + (po i2.toNatClampNeg)), .int i2]) (rest := []) ⟨hx, hb, hml, hown, hB⟩ (w_a_md_multiple l D cI cJ qm qa qb qc (0 : Int32) mh ma mc mp mz mw mr ml mf ms m1 m2 m3 m4 mx my pa pb po ((i1 - i1 / (po i2.toNatClampNeg) * (po i2.toNatClampNeg)) + (po i2.toNatClampNeg)) i2 N r_c42 o0_12_c42 o0_13_c42 o0_14_c42 o0_15_c42 c6) (cwV 2 hB (zgV zw_570 zw_572 zv_md_multiple zw_5 zw_573) rfl rfl rfl (by decide +kernel) ⟨by rw [hR]; exact Nat.le_of_ble_eq_true rfl, by rw [hR]; exact Nat.le_of_ble_eq_true rfl⟩) hK hP hD hS [0, 1, 2, 3] (by decide) rfl rfl rfl rfl rfl rfl hl.1 rfl (Nat.le_of_ble_eq_true rfl) d_md_times_42 ⟨Nat.zero_le _, Nat.zero_le _⟩ (fun H locs hP hD hS => ?_)
      have hP : va_P D vwCl [(qm, .inr (4, [.int (0 : Int32), .int mh, .int ma, .int mc, .long m1, .long m2, .long m3, .long m4, .int mp, .ref qa, .ref qb, .ref qc, .int o0_12_c42, .int o0_13_c42, .long o0_14_c42, .long o0_15_c42, .int mr, .int ml, .int mf, .int ms])), (qa, .inl (cI, 40, .inl pa)), (qb, .inl (cI, 40, .inl pb)), (qc, .inl (cI, 40, .inl po))] H := hP
      have hD : va_D A [(qm, .inr (4, [.int (0 : Int32), .int mh, .int ma, .int mc, .long m1, .long m2, .long m3, .long m4, .int mp, .ref qa, .ref qb, .ref qc, .int o0_12_c42, .int o0_13_c42, .long o0_14_c42, .long o0_15_c42, .int mr, .int ml, .int mf, .int ms])), (qa, .inl (cI, 40, .inl pa)), (qb, .inl (cI, 40, .inl pb)), (qc, .inl (cI, 40, .inl po))] := hD
      cases hm
      rw [hQ]
      exact W.iret (pc := 45) hx hb hr (fun t ht _ => ⟨rfl, by rw [ht]; exact hP, hS.F ht⟩) hS.2.2 d_md_times_45
    rw [if_pos h1] at hm
    refine lv_iconst (pc := 13) (v := (-1 : Int32)) hx hb d_md_times_13 (by decide) ?_
    cases hm
    rw [hQ]
    exact W.iret (pc := 14) hx hb hr (fun t ht _ => ⟨rfl, by rw [ht]; exact hP, hS.F ht⟩) hS.2.2 d_md_times_14
  exact main s.heap [] hP hD hS
abbrev rm_md_isPrime : Room := { frames := 0, cells := 0, slots := 0, locals := 0 }
def a_md_isPrime_L2 (i1 : Int32) : Nat → Int32 → Option (Int32)
  | 0, _ => none
  | n + 1, x1_2 => (if i1 < (x1_2 * x1_2) then (if i1 < (3 : Int32) then (some (0 : Int32)) else (if (97 : Int32) < i1 then (some (0 : Int32)) else (some (1 : Int32)))) else (if x1_2 = 0 then none else (if (i1 - i1 / x1_2 * x1_2) = 0 then (some (0 : Int32)) else a_md_isPrime_L2 i1 n (x1_2 + (1 : Int32)))))
def a_md_isPrime (N : Nat) (i1 : Int32) : Option (Int32) := a_md_isPrime_L2 i1 N (2 : Int32)
set_option maxHeartbeats 4000000 in
set_option maxRecDepth 100000 in
theorem w_a_md_isPrime (l : Launch) (D : va_G) (cI cJ : ClassId) (i1 : Int32) (N : Nat) (r0 : Int32) (hm : a_md_isPrime N i1 = some r0) : Met l y_md_isPrime zs_md_isPrime rm_md_isPrime (zPc [.int i1] D [] [(cI, .int), (cJ, .long)]) (zRd (some (.int r0))) 0 0 (fun _ => False) := by
  refine zm (by decide) (Nat.le_of_ble_eq_true rfl) ?_
  intro p e s m args below meth c R Q hR hQ hargs hx hb hml hr hlocks hnm hB hown hP hK hD0 ls hl
  have hown : s.vm.findClass "TorsionDeskModel" = some m.cls := hown
  have hl : lv_has ls 2 [(0, .int i1)] := hl
  have k2 : ∀ (n : Nat) (x1_2 : Int32) (ls : Array Slot), lv_has ls 2 [(0, .int i1), (1, .int x1_2)] → a_md_isPrime_L2 i1 n x1_2 = some r0 → W p l e R s m args below meth c s.heap [] 0 0 Q (F0 m 2 ls []) := by
    intro n
    induction n with
    | zero => intro x1_2  ls hl hm; rw [a_md_isPrime_L2] at hm; cases hm
    | succ n ih =>
      intro x1_2  ls hl hm
      rw [a_md_isPrime_L2] at hm
      refine lv_iload_n (pc := 2) hx hb d_md_isPrime_2 rfl (lv_at hl 1 rfl) ?_
      refine lv_iload_n (pc := 3) hx hb d_md_isPrime_3 rfl (lv_at hl 1 rfl) ?_
      refine lv_imul (pc := 4) hx hb d_md_isPrime_4 ?_
      refine lv_iload_n (pc := 5) hx hb d_md_isPrime_5 rfl (lv_at hl 0 rfl) ?_
      refine lv_icmp_gt (pc := 6) (tgt := 23) hx hb d_md_isPrime_6 rfl (fun h1 => ?_) (fun h1 => ?_)
      · rw [if_pos h1] at hm
        refine lv_iload_n (pc := 23) hx hb d_md_isPrime_23 rfl (lv_at hl 0 rfl) ?_
        refine lv_iconst (pc := 24) (v := (3 : Int32)) hx hb d_md_isPrime_24 (by decide) ?_
        refine lv_icmp_lt (pc := 25) (tgt := 38) hx hb d_md_isPrime_25 rfl (fun h2 => ?_) (fun h2 => ?_)
        · rw [if_pos h2] at hm
          refine lv_iconst (pc := 38) (v := (0 : Int32)) hx hb d_md_isPrime_38 (by decide) ?_
          cases hm
          rw [hQ]
          exact W.zret (pc := 39) hx hb hr rfl (fun t ht _ => ⟨rfl, ht⟩) (fun _ h9 => nomatch h9) d_md_isPrime_39
        rw [if_neg h2] at hm
        refine lv_iload_n (pc := 28) hx hb d_md_isPrime_28 rfl (lv_at hl 0 rfl) ?_
        refine lv_bipush (pc := 29) (v := (97 : Int32)) hx hb d_md_isPrime_29 (by decide) ?_
        refine lv_icmp_gt (pc := 31) (tgt := 38) hx hb d_md_isPrime_31 rfl (fun h3 => ?_) (fun h3 => ?_)
        · rw [if_pos h3] at hm
          refine lv_iconst (pc := 38) (v := (0 : Int32)) hx hb d_md_isPrime_38 (by decide) ?_
          cases hm
          rw [hQ]
          exact W.zret (pc := 39) hx hb hr rfl (fun t ht _ => ⟨rfl, ht⟩) (fun _ h9 => nomatch h9) d_md_isPrime_39
        rw [if_neg h3] at hm
        refine lv_iconst (pc := 34) (v := (1 : Int32)) hx hb d_md_isPrime_34 (by decide) ?_
        refine lv_goto (pc := 35) (tgt := 39) hx hb d_md_isPrime_35 rfl ?_
        cases hm
        rw [hQ]
        exact W.zret (pc := 39) hx hb hr rfl (fun t ht _ => ⟨rfl, ht⟩) (fun _ h9 => nomatch h9) d_md_isPrime_39
      rw [if_neg h1] at hm
      refine lv_iload_n (pc := 9) hx hb d_md_isPrime_9 rfl (lv_at hl 0 rfl) ?_
      refine lv_iload_n (pc := 10) hx hb d_md_isPrime_10 rfl (lv_at hl 1 rfl) ?_
      by_cases g4 : x1_2 = 0
      · rw [if_pos g4] at hm; cases hm
      rw [if_neg g4] at hm
      refine lv_irem (pc := 11) hx hb d_md_isPrime_11 g4 ?_
      refine lv_if_ne (pc := 12) (tgt := 17) hx hb d_md_isPrime_12 rfl (fun h5 => ?_) (fun h5 => ?_)
      · rw [if_neg h5] at hm
        refine lv_iinc (pc := 17) (k := 1) (v := x1_2 + (1 : Int32)) (lv' := [(1, .int (x1_2 + (1 : Int32))), (0, .int i1)]) hx hb d_md_isPrime_17 hl rfl (congrArg (x1_2 + ·) (by decide)) (Nat.le_of_ble_eq_true rfl) rfl (fun ls hl => ?_)
        refine lv_goto (pc := 20) (tgt := 2) hx hb d_md_isPrime_20 rfl ?_
        exact ih (x1_2 + (1 : Int32)) ls (lv_sub hl [1, 0] rfl) hm
      rw [if_pos h5] at hm
      refine lv_iconst (pc := 15) (v := (0 : Int32)) hx hb d_md_isPrime_15 (by decide) ?_
      cases hm
      rw [hQ]
      exact W.zret (pc := 16) hx hb hr rfl (fun t ht _ => ⟨rfl, ht⟩) (fun _ h9 => nomatch h9) d_md_isPrime_16
  rw [a_md_isPrime] at hm
  refine lv_iconst (pc := 0) (v := (2 : Int32)) hx hb d_md_isPrime_0 (by decide) ?_
  refine lv_istore_n (pc := 1) (lv' := [(1, .int (2 : Int32)), (0, .int i1)]) hx hb d_md_isPrime_1 rfl hl (Nat.le_of_ble_eq_true rfl) rfl (fun ls hl => ?_)
  exact k2 N (2 : Int32) ls (lv_sub hl [1, 0] rfl) hm
abbrev rm_md_counted : Room := { frames := 1, cells := 0, slots := 0, locals := 22 }
def a_md_counted_L30 (i1 : Int32) : Nat → Int32 → Int32 → Int32 → Int32 → Option (Int32 × Int32)
  | 0, _, _, _, _ => none
  | n + 1, x5_30, x2_30, x3_30, x4_30 => (if i1 ≤ x5_30 then (some (x2_30, x3_30)) else (if i1 = 0 then none else (if ((x5_30 * x5_30) - (x5_30 * x5_30) / i1 * i1) = x4_30 then a_md_counted_L30 i1 n (x5_30 + (1 : Int32)) (x2_30 + (1 : Int32)) x3_30 x4_30 else a_md_counted_L30 i1 n (x5_30 + (1 : Int32)) x2_30 x3_30 x4_30)))
def a_md_counted_L4 (m1 : Int64) (m2 : Int64) (m3 : Int64) (i1 : Int32) : Nat → Int32 → Int32 → Option (Int32)
  | 0, _, _ => none
  | n + 1, x3_4, x2_4 => (if i1 ≤ x3_4 then (some x2_4) else (if i1.toInt64 = 0 then none else ((a_md_counted_L30 i1 n (0 : Int32) x2_4 x3_4 (((((a_md_cubic m1 m2 m3 x3_4.toInt64) - (a_md_cubic m1 m2 m3 x3_4.toInt64) / i1.toInt64 * i1.toInt64) + i1.toInt64) - (((a_md_cubic m1 m2 m3 x3_4.toInt64) - (a_md_cubic m1 m2 m3 x3_4.toInt64) / i1.toInt64 * i1.toInt64) + i1.toInt64) / i1.toInt64 * i1.toInt64).toInt32)).bind (fun (x2_62e, x3_62e) => a_md_counted_L4 m1 m2 m3 i1 n (x3_62e + (1 : Int32)) x2_62e))))
def a_md_counted (N : Nat) (m1 : Int64) (m2 : Int64) (m3 : Int64) (i1 : Int32) : Option (Int32) := a_md_counted_L4 m1 m2 m3 i1 N (0 : Int32) (1 : Int32)
set_option maxHeartbeats 4000000 in
set_option maxRecDepth 100000 in
theorem w_a_md_counted (l : Launch) (D : va_G) (cI cJ : ClassId) (qm : Nat) (qa : Nat) (qb : Nat) (qc : Nat) (mt : Int32) (mh : Int32) (ma : Int32) (mc : Int32) (mp : Int32) (mz : Int32) (mw : Int32) (mr : Int32) (ml : Int32) (mf : Int32) (ms : Int32) (m1 : Int64) (m2 : Int64) (m3 : Int64) (m4 : Int64) (mx : Int64) (my : Int64) (pa : Nat → Int32) (pb : Nat → Int32) (po : Nat → Int32) (i1 : Int32) (N : Nat) (r0 : Int32) (hm : a_md_counted N m1 m2 m3 i1 = some r0) : Met l y_md_counted zs_md_counted rm_md_counted (zPc [.ref qm, .int i1] D [(qm, .inr (4, [.int mt, .int mh, .int ma, .int mc, .long m1, .long m2, .long m3, .long m4, .int mp, .ref qa, .ref qb, .ref qc, .int mz, .int mw, .long mx, .long my, .int mr, .int ml, .int mf, .int ms])), (qa, .inl (cI, 40, .inl pa)), (qb, .inl (cI, 40, .inl pb)), (qc, .inl (cI, 40, .inl po))] [(cI, .int), (cJ, .long)]) (zRd (some (.int r0))) 0 0 (fun _ => False) := by
  refine zm (by decide) (Nat.le_of_ble_eq_true rfl) ?_
  intro p e s m args below meth c R Q hR hQ hargs hx hb hml hr hlocks hnm hB hown hP hK hD0 ls hl
  have hown : s.vm.findClass "TorsionDeskModel" = some m.cls := hown
  have hl : lv_has ls 6 [(0, .ref qm), (1, .int i1)] := hl
  have k30 : ∀ (n : Nat) (x5_30 : Int32) (x2_30 : Int32) (x3_30 : Int32) (x4_30 : Int32) (x2_62e : Int32) (x3_62e : Int32) (ls : Array Slot), lv_has ls 6 [(0, .ref qm), (1, .int i1), (2, .int x2_30), (3, .int x3_30), (4, .int x4_30), (5, .int x5_30)] → a_md_counted_L30 i1 n x5_30 x2_30 x3_30 x4_30 = some (x2_62e, x3_62e) → (∀ (ls : Array Slot), lv_has ls 6 [(0, .ref qm), (1, .int i1), (2, .int x2_62e), (3, .int x3_62e)] → W p l e R s m args below meth c s.heap [] 0 0 Q (F0 m 62 ls [])) → W p l e R s m args below meth c s.heap [] 0 0 Q (F0 m 30 ls []) := by
    intro n
    induction n with
    | zero => intro x5_30 x2_30 x3_30 x4_30 x2_62e x3_62e ls hl hm kk; rw [a_md_counted_L30] at hm; cases hm
    | succ n ih =>
      intro x5_30 x2_30 x3_30 x4_30 x2_62e x3_62e ls hl hm kk
      rw [a_md_counted_L30] at hm
      refine lv_iload (pc := 30) hx hb d_md_counted_30 (lv_at hl 5 rfl) ?_
      refine lv_iload_n (pc := 32) hx hb d_md_counted_32 rfl (lv_at hl 1 rfl) ?_
      refine lv_icmp_ge (pc := 33) (tgt := 62) hx hb d_md_counted_33 rfl (fun h1 => ?_) (fun h1 => ?_)
      · rw [if_pos h1] at hm
        cases hm
        exact kk ls (lv_sub hl [0, 1, 2, 3] rfl) 
      rw [if_neg h1] at hm
      refine lv_iload (pc := 36) hx hb d_md_counted_36 (lv_at hl 5 rfl) ?_
      refine lv_iload (pc := 38) hx hb d_md_counted_38 (lv_at hl 5 rfl) ?_
      refine lv_imul (pc := 40) hx hb d_md_counted_40 ?_
      refine lv_iload_n (pc := 41) hx hb d_md_counted_41 rfl (lv_at hl 1 rfl) ?_
      by_cases g2 : i1 = 0
      · rw [if_pos g2] at hm; cases hm
      rw [if_neg g2] at hm
      refine lv_irem (pc := 42) hx hb d_md_counted_42 g2 ?_
      refine lv_iload (pc := 43) hx hb d_md_counted_43 (lv_at hl 4 rfl) ?_
      refine lv_icmp_ne (pc := 45) (tgt := 54) hx hb d_md_counted_45 rfl (fun h3 => ?_) (fun h3 => ?_)
      · rw [if_neg h3] at hm
        refine lv_iload_n (pc := 54) hx hb d_md_counted_54 rfl (lv_at hl 2 rfl) ?_
        refine lv_istore_n (pc := 55) (lv' := [(2, .int x2_30), (0, .ref qm), (1, .int i1), (3, .int x3_30), (4, .int x4_30), (5, .int x5_30)]) hx hb d_md_counted_55 rfl hl (Nat.le_of_ble_eq_true rfl) rfl (fun ls hl => ?_)
        refine lv_iinc (pc := 56) (k := 5) (v := x5_30 + (1 : Int32)) (lv' := [(5, .int (x5_30 + (1 : Int32))), (2, .int x2_30), (0, .ref qm), (1, .int i1), (3, .int x3_30), (4, .int x4_30)]) hx hb d_md_counted_56 hl rfl (congrArg (x5_30 + ·) (by decide)) (Nat.le_of_ble_eq_true rfl) rfl (fun ls hl => ?_)
        refine lv_goto (pc := 59) (tgt := 30) hx hb d_md_counted_59 rfl ?_
        exact ih (x5_30 + (1 : Int32)) x2_30 x3_30 x4_30 x2_62e x3_62e ls (lv_sub hl [2, 3, 1, 4, 5, 0] rfl) hm kk
      rw [if_pos h3] at hm
      refine lv_iload_n (pc := 48) hx hb d_md_counted_48 rfl (lv_at hl 2 rfl) ?_
      refine lv_iconst (pc := 49) (v := (1 : Int32)) hx hb d_md_counted_49 (by decide) ?_
      refine lv_iadd (pc := 50) hx hb d_md_counted_50 ?_
      refine lv_goto (pc := 51) (tgt := 55) hx hb d_md_counted_51 rfl ?_
      refine lv_istore_n (pc := 55) (lv' := [(2, .int (x2_30 + (1 : Int32))), (0, .ref qm), (1, .int i1), (3, .int x3_30), (4, .int x4_30), (5, .int x5_30)]) hx hb d_md_counted_55 rfl hl (Nat.le_of_ble_eq_true rfl) rfl (fun ls hl => ?_)
      refine lv_iinc (pc := 56) (k := 5) (v := x5_30 + (1 : Int32)) (lv' := [(5, .int (x5_30 + (1 : Int32))), (2, .int (x2_30 + (1 : Int32))), (0, .ref qm), (1, .int i1), (3, .int x3_30), (4, .int x4_30)]) hx hb d_md_counted_56 hl rfl (congrArg (x5_30 + ·) (by decide)) (Nat.le_of_ble_eq_true rfl) rfl (fun ls hl => ?_)
      refine lv_goto (pc := 59) (tgt := 30) hx hb d_md_counted_59 rfl ?_
      exact ih (x5_30 + (1 : Int32)) (x2_30 + (1 : Int32)) x3_30 x4_30 x2_62e x3_62e ls (lv_sub hl [2, 3, 1, 4, 5, 0] rfl) hm kk
  have k4 : ∀ (n : Nat) (x3_4 : Int32) (x2_4 : Int32) (ls : Array Slot), lv_has ls 6 [(0, .ref qm), (1, .int i1), (2, .int x2_4), (3, .int x3_4)] → a_md_counted_L4 m1 m2 m3 i1 n x3_4 x2_4 = some r0 → W p l e R s m args below meth c s.heap [] 0 0 Q (F0 m 4 ls []) := by
    intro n
    induction n with
    | zero => intro x3_4 x2_4  ls hl hm; rw [a_md_counted_L4] at hm; cases hm
    | succ n ih =>
      intro x3_4 x2_4  ls hl hm
      rw [a_md_counted_L4] at hm
      refine lv_iload_n (pc := 4) hx hb d_md_counted_4 rfl (lv_at hl 3 rfl) ?_
      refine lv_iload_n (pc := 5) hx hb d_md_counted_5 rfl (lv_at hl 1 rfl) ?_
      refine lv_icmp_ge (pc := 6) (tgt := 68) hx hb d_md_counted_6 rfl (fun h4 => ?_) (fun h4 => ?_)
      · rw [if_pos h4] at hm
        refine lv_iload_n (pc := 68) hx hb d_md_counted_68 rfl (lv_at hl 2 rfl) ?_
        cases hm
        rw [hQ]
        exact W.iret (pc := 69) hx hb hr (fun t ht _ => ⟨rfl, ht⟩) (fun _ h9 => nomatch h9) d_md_counted_69
      rw [if_neg h4] at hm
      refine lv_aload_n (pc := 9) hx hb d_md_counted_9 rfl (lv_at hl 0 rfl) ?_
      refine lv_iload_n (pc := 10) hx hb d_md_counted_10 rfl (lv_at hl 3 rfl) ?_
      refine lv_i2l (pc := 11) hx hb d_md_counted_11 rfl ?_
      refine zcV (pc := 12) (As := [.long x3_4.toInt64]) (rest := []) ⟨hx, hb, hml, hown, hB⟩ (w_a_md_cubic l D cI cJ qm qa qb qc mt mh ma mc mp mz mw mr ml mf ms m1 m2 m3 m4 mx my pa pb po x3_4.toInt64 _ rfl) (cwV 1 hB (zgV zw_495 zw_497 zv_md_cubic zw_5 zw_498) rfl rfl rfl (by decide +kernel) ⟨by rw [hR]; exact Nat.le_of_ble_eq_true rfl, by rw [hR]; exact Nat.le_of_ble_eq_true rfl⟩) hK (hP.sub (ws' := [(qm, .inr (4, [.int mt, .int mh, .int ma, .int mc, .long m1, .long m2, .long m3, .long m4, .int mp, .ref qa, .ref qb, .ref qc, .int mz, .int mw, .long mx, .long my, .int mr, .int ml, .int mf, .int ms])), (qa, .inl (cI, 40, .inl pa)), (qb, .inl (cI, 40, .inl pb)), (qc, .inl (cI, 40, .inl po))]) [0, 1, 2, 3] rfl) (hD0.sub (ws' := [(qm, .inr (4, [.int mt, .int mh, .int ma, .int mc, .long m1, .long m2, .long m3, .long m4, .int mp, .ref qa, .ref qb, .ref qc, .int mz, .int mw, .long mx, .long my, .int mr, .int ml, .int mf, .int ms])), (qa, .inl (cI, 40, .inl pa)), (qb, .inl (cI, 40, .inl pb)), (qc, .inl (cI, 40, .inl po))]) [0, 1, 2, 3] (by decide) rfl) rfl rfl rfl rfl hl.1 rfl (Nat.le_of_ble_eq_true rfl) d_md_counted_12 ⟨Nat.zero_le _, Nat.zero_le _⟩ ?_
      refine lv_iload_n (pc := 15) hx hb d_md_counted_15 rfl (lv_at hl 1 rfl) ?_
      refine lv_i2l (pc := 16) hx hb d_md_counted_16 rfl ?_
      by_cases g5 : i1.toInt64 = 0
      · rw [if_pos g5] at hm; cases hm
      rw [if_neg g5] at hm
      refine lv_lrem (pc := 17) hx hb d_md_counted_17 g5 ?_
      refine lv_iload_n (pc := 18) hx hb d_md_counted_18 rfl (lv_at hl 1 rfl) ?_
      refine lv_i2l (pc := 19) hx hb d_md_counted_19 rfl ?_
      refine lv_ladd (pc := 20) hx hb d_md_counted_20 ?_
      refine lv_iload_n (pc := 21) hx hb d_md_counted_21 rfl (lv_at hl 1 rfl) ?_
      refine lv_i2l (pc := 22) hx hb d_md_counted_22 rfl ?_
      refine lv_lrem (pc := 23) hx hb d_md_counted_23 g5 ?_
      refine lv_l2i (pc := 24) hx hb d_md_counted_24 rfl ?_
      refine lv_istore (pc := 25) (lv' := [(4, .int (((((a_md_cubic m1 m2 m3 x3_4.toInt64) - (a_md_cubic m1 m2 m3 x3_4.toInt64) / i1.toInt64 * i1.toInt64) + i1.toInt64) - (((a_md_cubic m1 m2 m3 x3_4.toInt64) - (a_md_cubic m1 m2 m3 x3_4.toInt64) / i1.toInt64 * i1.toInt64) + i1.toInt64) / i1.toInt64 * i1.toInt64).toInt32)), (0, .ref qm), (1, .int i1), (2, .int x2_4), (3, .int x3_4)]) hx hb d_md_counted_25 hl (Nat.le_of_ble_eq_true rfl) rfl (fun ls hl => ?_)
      refine lv_iconst (pc := 27) (v := (0 : Int32)) hx hb d_md_counted_27 (by decide) ?_
      refine lv_istore (pc := 28) (lv' := [(5, .int (0 : Int32)), (4, .int (((((a_md_cubic m1 m2 m3 x3_4.toInt64) - (a_md_cubic m1 m2 m3 x3_4.toInt64) / i1.toInt64 * i1.toInt64) + i1.toInt64) - (((a_md_cubic m1 m2 m3 x3_4.toInt64) - (a_md_cubic m1 m2 m3 x3_4.toInt64) / i1.toInt64 * i1.toInt64) + i1.toInt64) / i1.toInt64 * i1.toInt64).toInt32)), (0, .ref qm), (1, .int i1), (2, .int x2_4), (3, .int x3_4)]) hx hb d_md_counted_28 hl (Nat.le_of_ble_eq_true rfl) rfl (fun ls hl => ?_)
      obtain ⟨⟨x2_62e, x3_62e⟩, i6, hm⟩ := zbind hm
      try dsimp only at hm
      refine k30 n (0 : Int32) x2_4 x3_4 (((((a_md_cubic m1 m2 m3 x3_4.toInt64) - (a_md_cubic m1 m2 m3 x3_4.toInt64) / i1.toInt64 * i1.toInt64) + i1.toInt64) - (((a_md_cubic m1 m2 m3 x3_4.toInt64) - (a_md_cubic m1 m2 m3 x3_4.toInt64) / i1.toInt64 * i1.toInt64) + i1.toInt64) / i1.toInt64 * i1.toInt64).toInt32) x2_62e x3_62e ls (lv_sub hl [2, 3, 4, 5, 1, 0] rfl) i6 (fun ls hl => ?_)
      refine lv_iinc (pc := 62) (k := 3) (v := x3_62e + (1 : Int32)) (lv' := [(3, .int (x3_62e + (1 : Int32))), (0, .ref qm), (1, .int i1), (2, .int x2_62e)]) hx hb d_md_counted_62 hl rfl (congrArg (x3_62e + ·) (by decide)) (Nat.le_of_ble_eq_true rfl) rfl (fun ls hl => ?_)
      refine lv_goto (pc := 65) (tgt := 4) hx hb d_md_counted_65 rfl ?_
      exact ih (x3_62e + (1 : Int32)) x2_62e ls (lv_sub hl [1, 2, 3, 0] rfl) hm
  rw [a_md_counted] at hm
  refine lv_iconst (pc := 0) (v := (1 : Int32)) hx hb d_md_counted_0 (by decide) ?_
  refine lv_istore_n (pc := 1) (lv' := [(2, .int (1 : Int32)), (0, .ref qm), (1, .int i1)]) hx hb d_md_counted_1 rfl hl (Nat.le_of_ble_eq_true rfl) rfl (fun ls hl => ?_)
  refine lv_iconst (pc := 2) (v := (0 : Int32)) hx hb d_md_counted_2 (by decide) ?_
  refine lv_istore_n (pc := 3) (lv' := [(3, .int (0 : Int32)), (2, .int (1 : Int32)), (0, .ref qm), (1, .int i1)]) hx hb d_md_counted_3 rfl hl (Nat.le_of_ble_eq_true rfl) rfl (fun ls hl => ?_)
  exact k4 N (0 : Int32) (1 : Int32) ls (lv_sub hl [2, 3, 1, 0] rfl) hm
abbrev rm_md_modulo : Room := { frames := 2, cells := 0, slots := 0, locals := 47 }
def a_md_modulo (N : Nat) (mh : Int32) (m1 : Int64) (m2 : Int64) (m3 : Int64) (m4 : Int64) (i1 : Int32) : Option (Int32 × Int32) := (if i1 < (3 : Int32) then (some ((0 : Int32), (1 : Int32))) else (if (97 : Int32) < i1 then (some ((0 : Int32), (1 : Int32))) else ((a_md_isPrime N i1).bind (fun r_c13 => (if r_c13 = 0 then (some ((0 : Int32), (1 : Int32))) else (if mh = 0 then (some ((0 : Int32), (2 : Int32))) else (if i1.toInt64 = 0 then none else (if (m4 - m4 / i1.toInt64 * i1.toInt64) = (0 : Int64) then (some ((0 : Int32), (3 : Int32))) else ((a_md_counted N m1 m2 m3 i1).bind (fun r_c67 => (some (r_c67, (0 : Int32)))))))))))))
set_option maxHeartbeats 4000000 in
set_option maxRecDepth 100000 in
theorem w_a_md_modulo (l : Launch) (D : va_G) (cI cJ : ClassId) (qm : Nat) (qa : Nat) (qb : Nat) (qc : Nat) (mt : Int32) (mh : Int32) (ma : Int32) (mc : Int32) (mp : Int32) (mz : Int32) (mw : Int32) (mr : Int32) (ml : Int32) (mf : Int32) (ms : Int32) (m1 : Int64) (m2 : Int64) (m3 : Int64) (m4 : Int64) (mx : Int64) (my : Int64) (pa : Nat → Int32) (pb : Nat → Int32) (po : Nat → Int32) (i1 : Int32) (N : Nat) (r0 : Int32) (r1 : Int32) (hm : a_md_modulo N mh m1 m2 m3 m4 i1 = some (r0, r1)) : Met l y_md_modulo zs_md_modulo rm_md_modulo (zPc [.ref qm, .int i1] D [(qm, .inr (4, [.int mt, .int mh, .int ma, .int mc, .long m1, .long m2, .long m3, .long m4, .int mp, .ref qa, .ref qb, .ref qc, .int mz, .int mw, .long mx, .long my, .int mr, .int ml, .int mf, .int ms])), (qa, .inl (cI, 40, .inl pa)), (qb, .inl (cI, 40, .inl pb)), (qc, .inl (cI, 40, .inl po))] [(cI, .int), (cJ, .long)]) (zWr (some (.int r0)) D (zIn [(qm, .inr (4, [.int mt, .int mh, .int ma, .int mc, .long m1, .long m2, .long m3, .long m4, .int mp, .ref qa, .ref qb, .ref qc, .int mz, .int mw, .long mx, .long my, .int mr, .int ml, .int mf, .int ms])), (qa, .inl (cI, 40, .inl pa)), (qb, .inl (cI, 40, .inl pb)), (qc, .inl (cI, 40, .inl po))]) [(qm, .inr (4, [.int r1, .int mh, .int ma, .int mc, .long m1, .long m2, .long m3, .long m4, .int mp, .ref qa, .ref qb, .ref qc, .int mz, .int mw, .long mx, .long my, .int mr, .int ml, .int mf, .int ms])), (qa, .inl (cI, 40, .inl pa)), (qb, .inl (cI, 40, .inl pb)), (qc, .inl (cI, 40, .inl po))]) 0 0 (zIn [(qm, .inr (4, [.int mt, .int mh, .int ma, .int mc, .long m1, .long m2, .long m3, .long m4, .int mp, .ref qa, .ref qb, .ref qc, .int mz, .int mw, .long mx, .long my, .int mr, .int ml, .int mf, .int ms])), (qa, .inl (cI, 40, .inl pa)), (qb, .inl (cI, 40, .inl pb)), (qc, .inl (cI, 40, .inl po))]) := by
  refine zm (by decide) (Nat.le_of_ble_eq_true rfl) ?_
  intro p e s m args below meth c R Q hR hQ hargs hx hb hml hr hlocks hnm hB hown hP hK hD0 ls hl
  have hown : s.vm.findClass "TorsionDeskModel" = some m.cls := hown
  have hl : lv_has ls 2 [(0, .ref qm), (1, .int i1)] := hl
  obtain ⟨A, hA⟩ : ∃ A, A = zIn [(qm, .inr (4, [.int mt, .int mh, .int ma, .int mc, .long m1, .long m2, .long m3, .long m4, .int mp, .ref qa, .ref qb, .ref qc, .int mz, .int mw, .long mx, .long my, .int mr, .int ml, .int mf, .int ms])), (qa, .inl (cI, 40, .inl pa)), (qb, .inl (cI, 40, .inl pb)), (qc, .inl (cI, 40, .inl po))] := ⟨_, rfl⟩
  have hD : va_D A [(qm, .inr (4, [.int mt, .int mh, .int ma, .int mc, .long m1, .long m2, .long m3, .long m4, .int mp, .ref qa, .ref qb, .ref qc, .int mz, .int mw, .long mx, .long my, .int mr, .int ml, .int mf, .int ms])), (qa, .inl (cI, 40, .inl pa)), (qb, .inl (cI, 40, .inl pb)), (qc, .inl (cI, 40, .inl po))] := by rw [hA]; exact zIn_self hD0
  have hS : va_S A s.heap s.heap [] := va_S.rf
  rw [← hA] at hQ
  have main : ∀ (H : Heap) (locs : List Loc), va_P D vwCl [(qm, .inr (4, [.int mt, .int mh, .int ma, .int mc, .long m1, .long m2, .long m3, .long m4, .int mp, .ref qa, .ref qb, .ref qc, .int mz, .int mw, .long mx, .long my, .int mr, .int ml, .int mf, .int ms])), (qa, .inl (cI, 40, .inl pa)), (qb, .inl (cI, 40, .inl pb)), (qc, .inl (cI, 40, .inl po))] H → va_D A [(qm, .inr (4, [.int mt, .int mh, .int ma, .int mc, .long m1, .long m2, .long m3, .long m4, .int mp, .ref qa, .ref qb, .ref qc, .int mz, .int mw, .long mx, .long my, .int mr, .int ml, .int mf, .int ms])), (qa, .inl (cI, 40, .inl pa)), (qb, .inl (cI, 40, .inl pb)), (qc, .inl (cI, 40, .inl po))] → va_S A s.heap H locs → W p l e R s m args below meth c H locs 0 0 Q (F0 m 0 ls []) := by
    intro H locs hP hD hS
    rw [a_md_modulo] at hm
    refine lv_aload_n (pc := 0) hx hb d_md_modulo_0 rfl (lv_at hl 0 rfl) ?_
    refine lv_iload_n (pc := 1) hx hb d_md_modulo_1 rfl (lv_at hl 1 rfl) ?_
    refine lv_iconst (pc := 2) (v := (3 : Int32)) hx hb d_md_modulo_2 (by decide) ?_
    refine lv_icmp_lt (pc := 3) (tgt := 19) hx hb d_md_modulo_3 rfl (fun h1 => ?_) (fun h1 => ?_)
    · rw [if_pos h1] at hm
      refine lv_iconst (pc := 19) (v := (1 : Int32)) hx hb d_md_modulo_19 (by decide) ?_
      refine lv_goto (pc := 20) (tgt := 51) hx hb d_md_modulo_20 rfl ?_
      refine va_put (pc := 51) (D := D) (ci := 4) (v := .int (1 : Int32)) (ty := .int) (C := "TorsionDeskModel") (T := tX4) (N := 20) hx hb hB lX4 yX4 yX4_ok nX4 hown hK hP hD hS 0 rfl rfl 0 (by decide) (hB _ zw_417) (fun _ h9 => h9) rfl (by decide +kernel) rfl rfl (Nat.le_of_ble_eq_true rfl) d_md_modulo_51 (fun H locs hP hD hS => ?_)
      have hP : va_P D vwCl [(qm, .inr (4, [.int (1 : Int32), .int mh, .int ma, .int mc, .long m1, .long m2, .long m3, .long m4, .int mp, .ref qa, .ref qb, .ref qc, .int mz, .int mw, .long mx, .long my, .int mr, .int ml, .int mf, .int ms])), (qa, .inl (cI, 40, .inl pa)), (qb, .inl (cI, 40, .inl pb)), (qc, .inl (cI, 40, .inl po))] H := hP
      have hD : va_D A [(qm, .inr (4, [.int (1 : Int32), .int mh, .int ma, .int mc, .long m1, .long m2, .long m3, .long m4, .int mp, .ref qa, .ref qb, .ref qc, .int mz, .int mw, .long mx, .long my, .int mr, .int ml, .int mf, .int ms])), (qa, .inl (cI, 40, .inl pa)), (qb, .inl (cI, 40, .inl pb)), (qc, .inl (cI, 40, .inl po))] := hD
      refine lv_aload_n (pc := 54) hx hb d_md_modulo_54 rfl (lv_at hl 0 rfl) ?_
      refine va_get (pc := 55) (D := D) (ci := 4) (v := .int (1 : Int32)) (C := "TorsionDeskModel") (T := tX4) (N := 20) hx hb hB lX4 hown hK hP 0 rfl rfl 0 (by decide) (hB _ zw_417) (fun _ h9 => h9) rfl d_md_modulo_55 ?_
      refine lv_if_le (pc := 58) (tgt := 65) hx hb d_md_modulo_58 rfl (fun h9 => absurd h9 (by decide)) (fun _ => ?_)
      refine lv_iconst (pc := 61) (v := (0 : Int32)) hx hb d_md_modulo_61 (by decide) ?_
      refine lv_goto (pc := 62) (tgt := 70) hx hb d_md_modulo_62 rfl ?_
      cases hm
      rw [hQ]
      exact W.iret (pc := 70) hx hb hr (fun t ht _ => ⟨rfl, by rw [ht]; exact hP, hS.F ht⟩) hS.2.2 d_md_modulo_70
    rw [if_neg h1] at hm
    refine lv_iload_n (pc := 6) hx hb d_md_modulo_6 rfl (lv_at hl 1 rfl) ?_
    refine lv_bipush (pc := 7) (v := (97 : Int32)) hx hb d_md_modulo_7 (by decide) ?_
    refine lv_icmp_gt (pc := 9) (tgt := 19) hx hb d_md_modulo_9 rfl (fun h2 => ?_) (fun h2 => ?_)
    · rw [if_pos h2] at hm
      refine lv_iconst (pc := 19) (v := (1 : Int32)) hx hb d_md_modulo_19 (by decide) ?_
      refine lv_goto (pc := 20) (tgt := 51) hx hb d_md_modulo_20 rfl ?_
      refine va_put (pc := 51) (D := D) (ci := 4) (v := .int (1 : Int32)) (ty := .int) (C := "TorsionDeskModel") (T := tX4) (N := 20) hx hb hB lX4 yX4 yX4_ok nX4 hown hK hP hD hS 0 rfl rfl 0 (by decide) (hB _ zw_417) (fun _ h9 => h9) rfl (by decide +kernel) rfl rfl (Nat.le_of_ble_eq_true rfl) d_md_modulo_51 (fun H locs hP hD hS => ?_)
      have hP : va_P D vwCl [(qm, .inr (4, [.int (1 : Int32), .int mh, .int ma, .int mc, .long m1, .long m2, .long m3, .long m4, .int mp, .ref qa, .ref qb, .ref qc, .int mz, .int mw, .long mx, .long my, .int mr, .int ml, .int mf, .int ms])), (qa, .inl (cI, 40, .inl pa)), (qb, .inl (cI, 40, .inl pb)), (qc, .inl (cI, 40, .inl po))] H := hP
      have hD : va_D A [(qm, .inr (4, [.int (1 : Int32), .int mh, .int ma, .int mc, .long m1, .long m2, .long m3, .long m4, .int mp, .ref qa, .ref qb, .ref qc, .int mz, .int mw, .long mx, .long my, .int mr, .int ml, .int mf, .int ms])), (qa, .inl (cI, 40, .inl pa)), (qb, .inl (cI, 40, .inl pb)), (qc, .inl (cI, 40, .inl po))] := hD
      refine lv_aload_n (pc := 54) hx hb d_md_modulo_54 rfl (lv_at hl 0 rfl) ?_
      refine va_get (pc := 55) (D := D) (ci := 4) (v := .int (1 : Int32)) (C := "TorsionDeskModel") (T := tX4) (N := 20) hx hb hB lX4 hown hK hP 0 rfl rfl 0 (by decide) (hB _ zw_417) (fun _ h9 => h9) rfl d_md_modulo_55 ?_
      refine lv_if_le (pc := 58) (tgt := 65) hx hb d_md_modulo_58 rfl (fun h9 => absurd h9 (by decide)) (fun _ => ?_)
      refine lv_iconst (pc := 61) (v := (0 : Int32)) hx hb d_md_modulo_61 (by decide) ?_
      refine lv_goto (pc := 62) (tgt := 70) hx hb d_md_modulo_62 rfl ?_
      cases hm
      rw [hQ]
      exact W.iret (pc := 70) hx hb hr (fun t ht _ => ⟨rfl, by rw [ht]; exact hP, hS.F ht⟩) hS.2.2 d_md_modulo_70
    rw [if_neg h2] at hm
    refine lv_iload_n (pc := 12) hx hb d_md_modulo_12 rfl (lv_at hl 1 rfl) ?_
    obtain ⟨r_c13, c3, hm⟩ := zbind hm
    try dsimp only at hm
    refine zcS (pc := 13) (As := [.int i1]) (rest := [.ref qm]) ⟨hx, hb, hml, hown, hB⟩ (w_a_md_isPrime l D cI cJ i1 N r_c13 c3) (va_cwS 1 hB (zgS zw_578 zw_579 zw_5 zw_580) rfl rfl rfl (by decide +kernel) ⟨by rw [hR]; exact Nat.le_of_ble_eq_true rfl, by rw [hR]; exact Nat.le_of_ble_eq_true rfl⟩) hK (hP.sub (ws' := []) [] rfl) (hD.sub (ws' := []) [] (by decide) rfl) rfl hl.1 rfl (Nat.le_of_ble_eq_true rfl) d_md_modulo_13 ⟨Nat.zero_le _, Nat.zero_le _⟩ ?_
    refine lv_if_ne (pc := 16) (tgt := 23) hx hb d_md_modulo_16 rfl (fun h4 => ?_) (fun h4 => ?_)
    · rw [if_neg h4] at hm
      refine lv_aload_n (pc := 23) hx hb d_md_modulo_23 rfl (lv_at hl 0 rfl) ?_
      refine va_get (pc := 24) (D := D) (ci := 4) (v := .int mh) (C := "TorsionDeskModel") (T := tX4) (N := 20) hx hb hB lX4 hown hK hP 0 rfl rfl 1 (by decide) (hB _ zw_418) (fun _ h9 => h9) rfl d_md_modulo_24 ?_
      refine lv_if_ne (pc := 27) (tgt := 34) hx hb d_md_modulo_27 rfl (fun h5 => ?_) (fun h5 => ?_)
      · rw [if_neg h5] at hm
        refine lv_aload_n (pc := 34) hx hb d_md_modulo_34 rfl (lv_at hl 0 rfl) ?_
        refine va_get (pc := 35) (D := D) (ci := 4) (v := .long m4) (C := "TorsionDeskModel") (T := tX4) (N := 20) hx hb hB lX4 hown hK hP 0 rfl rfl 7 (by decide) (hB _ zw_424) (fun _ h9 => h9) rfl d_md_modulo_35 ?_
        refine lv_iload_n (pc := 38) hx hb d_md_modulo_38 rfl (lv_at hl 1 rfl) ?_
        refine lv_i2l (pc := 39) hx hb d_md_modulo_39 rfl ?_
        by_cases g6 : i1.toInt64 = 0
        · rw [if_pos g6] at hm; cases hm
        rw [if_neg g6] at hm
        refine lv_lrem (pc := 40) hx hb d_md_modulo_40 g6 ?_
        refine lv_lconst (pc := 41) (v := (0 : Int64)) hx hb d_md_modulo_41 (by decide) ?_
        refine zl_ne (pc := 42) (tgt := 50) hx hb d_md_modulo_42 d_md_modulo_43 rfl (fun h7 => ?_) (fun h7 => ?_)
        · rw [if_neg h7] at hm
          refine lv_iconst (pc := 50) (v := (0 : Int32)) hx hb d_md_modulo_50 (by decide) ?_
          refine va_put (pc := 51) (D := D) (ci := 4) (v := .int (0 : Int32)) (ty := .int) (C := "TorsionDeskModel") (T := tX4) (N := 20) hx hb hB lX4 yX4 yX4_ok nX4 hown hK hP hD hS 0 rfl rfl 0 (by decide) (hB _ zw_417) (fun _ h9 => h9) rfl (by decide +kernel) rfl rfl (Nat.le_of_ble_eq_true rfl) d_md_modulo_51 (fun H locs hP hD hS => ?_)
          have hP : va_P D vwCl [(qm, .inr (4, [.int (0 : Int32), .int mh, .int ma, .int mc, .long m1, .long m2, .long m3, .long m4, .int mp, .ref qa, .ref qb, .ref qc, .int mz, .int mw, .long mx, .long my, .int mr, .int ml, .int mf, .int ms])), (qa, .inl (cI, 40, .inl pa)), (qb, .inl (cI, 40, .inl pb)), (qc, .inl (cI, 40, .inl po))] H := hP
          have hD : va_D A [(qm, .inr (4, [.int (0 : Int32), .int mh, .int ma, .int mc, .long m1, .long m2, .long m3, .long m4, .int mp, .ref qa, .ref qb, .ref qc, .int mz, .int mw, .long mx, .long my, .int mr, .int ml, .int mf, .int ms])), (qa, .inl (cI, 40, .inl pa)), (qb, .inl (cI, 40, .inl pb)), (qc, .inl (cI, 40, .inl po))] := hD
          refine lv_aload_n (pc := 54) hx hb d_md_modulo_54 rfl (lv_at hl 0 rfl) ?_
          refine va_get (pc := 55) (D := D) (ci := 4) (v := .int (0 : Int32)) (C := "TorsionDeskModel") (T := tX4) (N := 20) hx hb hB lX4 hown hK hP 0 rfl rfl 0 (by decide) (hB _ zw_417) (fun _ h9 => h9) rfl d_md_modulo_55 ?_
          refine lv_if_le (pc := 58) (tgt := 65) hx hb d_md_modulo_58 rfl (fun _ => ?_) (fun h9 => absurd (by decide) h9)
          refine lv_aload_n (pc := 65) hx hb d_md_modulo_65 rfl (lv_at hl 0 rfl) ?_
          refine lv_iload_n (pc := 66) hx hb d_md_modulo_66 rfl (lv_at hl 1 rfl) ?_
          obtain ⟨r_c67, c8, hm⟩ := zbind hm
          try dsimp only at hm
          refine zcV (pc := 67) (As := [.int i1]) (rest := []) ⟨hx, hb, hml, hown, hB⟩ (w_a_md_counted l D cI cJ qm qa qb qc (0 : Int32) mh ma mc mp mz mw mr ml mf ms m1 m2 m3 m4 mx my pa pb po i1 N r_c67 c8) (cwV 1 hB (zgV zw_581 zw_583 zv_md_counted zw_5 zw_584) rfl rfl rfl (by decide +kernel) ⟨by rw [hR]; exact Nat.le_of_ble_eq_true rfl, by rw [hR]; exact Nat.le_of_ble_eq_true rfl⟩) hK (hP.sub (ws' := [(qm, .inr (4, [.int (0 : Int32), .int mh, .int ma, .int mc, .long m1, .long m2, .long m3, .long m4, .int mp, .ref qa, .ref qb, .ref qc, .int mz, .int mw, .long mx, .long my, .int mr, .int ml, .int mf, .int ms])), (qa, .inl (cI, 40, .inl pa)), (qb, .inl (cI, 40, .inl pb)), (qc, .inl (cI, 40, .inl po))]) [0, 1, 2, 3] rfl) (hD.sub (ws' := [(qm, .inr (4, [.int (0 : Int32), .int mh, .int ma, .int mc, .long m1, .long m2, .long m3, .long m4, .int mp, .ref qa, .ref qb, .ref qc, .int mz, .int mw, .long mx, .long my, .int mr, .int ml, .int mf, .int ms])), (qa, .inl (cI, 40, .inl pa)), (qb, .inl (cI, 40, .inl pb)), (qc, .inl (cI, 40, .inl po))]) [0, 1, 2, 3] (by decide) rfl) rfl rfl rfl rfl hl.1 rfl (Nat.le_of_ble_eq_true rfl) d_md_modulo_67 ⟨Nat.zero_le _, Nat.zero_le _⟩ ?_
          cases hm
          rw [hQ]
          exact W.iret (pc := 70) hx hb hr (fun t ht _ => ⟨rfl, by rw [ht]; exact hP, hS.F ht⟩) hS.2.2 d_md_modulo_70
        rw [if_pos h7] at hm
        refine lv_iconst (pc := 46) (v := (3 : Int32)) hx hb d_md_modulo_46 (by decide) ?_
        refine lv_goto (pc := 47) (tgt := 51) hx hb d_md_modulo_47 rfl ?_
        refine va_put (pc := 51) (D := D) (ci := 4) (v := .int (3 : Int32)) (ty := .int) (C := "TorsionDeskModel") (T := tX4) (N := 20) hx hb hB lX4 yX4 yX4_ok nX4 hown hK hP hD hS 0 rfl rfl 0 (by decide) (hB _ zw_417) (fun _ h9 => h9) rfl (by decide +kernel) rfl rfl (Nat.le_of_ble_eq_true rfl) d_md_modulo_51 (fun H locs hP hD hS => ?_)
        have hP : va_P D vwCl [(qm, .inr (4, [.int (3 : Int32), .int mh, .int ma, .int mc, .long m1, .long m2, .long m3, .long m4, .int mp, .ref qa, .ref qb, .ref qc, .int mz, .int mw, .long mx, .long my, .int mr, .int ml, .int mf, .int ms])), (qa, .inl (cI, 40, .inl pa)), (qb, .inl (cI, 40, .inl pb)), (qc, .inl (cI, 40, .inl po))] H := hP
        have hD : va_D A [(qm, .inr (4, [.int (3 : Int32), .int mh, .int ma, .int mc, .long m1, .long m2, .long m3, .long m4, .int mp, .ref qa, .ref qb, .ref qc, .int mz, .int mw, .long mx, .long my, .int mr, .int ml, .int mf, .int ms])), (qa, .inl (cI, 40, .inl pa)), (qb, .inl (cI, 40, .inl pb)), (qc, .inl (cI, 40, .inl po))] := hD
        refine lv_aload_n (pc := 54) hx hb d_md_modulo_54 rfl (lv_at hl 0 rfl) ?_
        refine va_get (pc := 55) (D := D) (ci := 4) (v := .int (3 : Int32)) (C := "TorsionDeskModel") (T := tX4) (N := 20) hx hb hB lX4 hown hK hP 0 rfl rfl 0 (by decide) (hB _ zw_417) (fun _ h9 => h9) rfl d_md_modulo_55 ?_
        refine lv_if_le (pc := 58) (tgt := 65) hx hb d_md_modulo_58 rfl (fun h9 => absurd h9 (by decide)) (fun _ => ?_)
        refine lv_iconst (pc := 61) (v := (0 : Int32)) hx hb d_md_modulo_61 (by decide) ?_
        refine lv_goto (pc := 62) (tgt := 70) hx hb d_md_modulo_62 rfl ?_
        cases hm
        rw [hQ]
        exact W.iret (pc := 70) hx hb hr (fun t ht _ => ⟨rfl, by rw [ht]; exact hP, hS.F ht⟩) hS.2.2 d_md_modulo_70
      rw [if_pos h5] at hm
      refine lv_iconst (pc := 30) (v := (2 : Int32)) hx hb d_md_modulo_30 (by decide) ?_
      refine lv_goto (pc := 31) (tgt := 51) hx hb d_md_modulo_31 rfl ?_
      refine va_put (pc := 51) (D := D) (ci := 4) (v := .int (2 : Int32)) (ty := .int) (C := "TorsionDeskModel") (T := tX4) (N := 20) hx hb hB lX4 yX4 yX4_ok nX4 hown hK hP hD hS 0 rfl rfl 0 (by decide) (hB _ zw_417) (fun _ h9 => h9) rfl (by decide +kernel) rfl rfl (Nat.le_of_ble_eq_true rfl) d_md_modulo_51 (fun H locs hP hD hS => ?_)
      have hP : va_P D vwCl [(qm, .inr (4, [.int (2 : Int32), .int mh, .int ma, .int mc, .long m1, .long m2, .long m3, .long m4, .int mp, .ref qa, .ref qb, .ref qc, .int mz, .int mw, .long mx, .long my, .int mr, .int ml, .int mf, .int ms])), (qa, .inl (cI, 40, .inl pa)), (qb, .inl (cI, 40, .inl pb)), (qc, .inl (cI, 40, .inl po))] H := hP
      have hD : va_D A [(qm, .inr (4, [.int (2 : Int32), .int mh, .int ma, .int mc, .long m1, .long m2, .long m3, .long m4, .int mp, .ref qa, .ref qb, .ref qc, .int mz, .int mw, .long mx, .long my, .int mr, .int ml, .int mf, .int ms])), (qa, .inl (cI, 40, .inl pa)), (qb, .inl (cI, 40, .inl pb)), (qc, .inl (cI, 40, .inl po))] := hD
      refine lv_aload_n (pc := 54) hx hb d_md_modulo_54 rfl (lv_at hl 0 rfl) ?_
      refine va_get (pc := 55) (D := D) (ci := 4) (v := .int (2 : Int32)) (C := "TorsionDeskModel") (T := tX4) (N := 20) hx hb hB lX4 hown hK hP 0 rfl rfl 0 (by decide) (hB _ zw_417) (fun _ h9 => h9) rfl d_md_modulo_55 ?_
      refine lv_if_le (pc := 58) (tgt := 65) hx hb d_md_modulo_58 rfl (fun h9 => absurd h9 (by decide)) (fun _ => ?_)
      refine lv_iconst (pc := 61) (v := (0 : Int32)) hx hb d_md_modulo_61 (by decide) ?_
      refine lv_goto (pc := 62) (tgt := 70) hx hb d_md_modulo_62 rfl ?_
      cases hm
      rw [hQ]
      exact W.iret (pc := 70) hx hb hr (fun t ht _ => ⟨rfl, by rw [ht]; exact hP, hS.F ht⟩) hS.2.2 d_md_modulo_70
    rw [if_pos h4] at hm
    refine lv_iconst (pc := 19) (v := (1 : Int32)) hx hb d_md_modulo_19 (by decide) ?_
    refine lv_goto (pc := 20) (tgt := 51) hx hb d_md_modulo_20 rfl ?_
    refine va_put (pc := 51) (D := D) (ci := 4) (v := .int (1 : Int32)) (ty := .int) (C := "TorsionDeskModel") (T := tX4) (N := 20) hx hb hB lX4 yX4 yX4_ok nX4 hown hK hP hD hS 0 rfl rfl 0 (by decide) (hB _ zw_417) (fun _ h9 => h9) rfl (by decide +kernel) rfl rfl (Nat.le_of_ble_eq_true rfl) d_md_modulo_51 (fun H locs hP hD hS => ?_)
    have hP : va_P D vwCl [(qm, .inr (4, [.int (1 : Int32), .int mh, .int ma, .int mc, .long m1, .long m2, .long m3, .long m4, .int mp, .ref qa, .ref qb, .ref qc, .int mz, .int mw, .long mx, .long my, .int mr, .int ml, .int mf, .int ms])), (qa, .inl (cI, 40, .inl pa)), (qb, .inl (cI, 40, .inl pb)), (qc, .inl (cI, 40, .inl po))] H := hP
    have hD : va_D A [(qm, .inr (4, [.int (1 : Int32), .int mh, .int ma, .int mc, .long m1, .long m2, .long m3, .long m4, .int mp, .ref qa, .ref qb, .ref qc, .int mz, .int mw, .long mx, .long my, .int mr, .int ml, .int mf, .int ms])), (qa, .inl (cI, 40, .inl pa)), (qb, .inl (cI, 40, .inl pb)), (qc, .inl (cI, 40, .inl po))] := hD
    refine lv_aload_n (pc := 54) hx hb d_md_modulo_54 rfl (lv_at hl 0 rfl) ?_
    refine va_get (pc := 55) (D := D) (ci := 4) (v := .int (1 : Int32)) (C := "TorsionDeskModel") (T := tX4) (N := 20) hx hb hB lX4 hown hK hP 0 rfl rfl 0 (by decide) (hB _ zw_417) (fun _ h9 => h9) rfl d_md_modulo_55 ?_
    refine lv_if_le (pc := 58) (tgt := 65) hx hb d_md_modulo_58 rfl (fun h9 => absurd h9 (by decide)) (fun _ => ?_)
    refine lv_iconst (pc := 61) (v := (0 : Int32)) hx hb d_md_modulo_61 (by decide) ?_
    refine lv_goto (pc := 62) (tgt := 70) hx hb d_md_modulo_62 rfl ?_
    cases hm
    rw [hQ]
    exact W.iret (pc := 70) hx hb hr (fun t ht _ => ⟨rfl, by rw [ht]; exact hP, hS.F ht⟩) hS.2.2 d_md_modulo_70
  exact main s.heap [] hP hD hS
abbrev rm_md_bound : Room := { frames := 2, cells := 0, slots := 0, locals := 47 }
def a_md_bound_L9 (mh : Int32) (m1 : Int64) (m2 : Int64) (m3 : Int64) (m4 : Int64) (i1 : Int32) : Nat → Int32 → Int32 → Option (Int32 × Int32)
  | 0, _, _ => none
  | n + 1, x3_9, x2_9 => (if i1 < x3_9 then (some (x2_9, (0 : Int32))) else (if (97 : Int32) < i1 then (some (x2_9, (0 : Int32))) else (if mh = 0 then (some (x2_9, (0 : Int32))) else ((a_md_isPrime n x3_9).bind (fun r_c28 => (if r_c28 = 0 then a_md_bound_L9 mh m1 m2 m3 m4 i1 n (x3_9 + (1 : Int32)) x2_9 else (if x3_9.toInt64 = 0 then none else (if (m4 - m4 / x3_9.toInt64 * x3_9.toInt64) = (0 : Int64) then a_md_bound_L9 mh m1 m2 m3 m4 i1 n (x3_9 + (1 : Int32)) x2_9 else ((a_md_counted n m1 m2 m3 x3_9).bind (fun r_c49 => ((a_md_common n x2_9 r_c49).bind (fun r_c52 => a_md_bound_L9 mh m1 m2 m3 m4 i1 n (x3_9 + (1 : Int32)) r_c52))))))))))))
def a_md_bound (N : Nat) (mh : Int32) (m1 : Int64) (m2 : Int64) (m3 : Int64) (m4 : Int64) (i1 : Int32) : Option (Int32 × Int32) := a_md_bound_L9 mh m1 m2 m3 m4 i1 N (3 : Int32) (0 : Int32)
set_option maxHeartbeats 4000000 in
set_option maxRecDepth 100000 in
theorem w_a_md_bound (l : Launch) (D : va_G) (cI cJ : ClassId) (qm : Nat) (qa : Nat) (qb : Nat) (qc : Nat) (mt : Int32) (mh : Int32) (ma : Int32) (mc : Int32) (mp : Int32) (mz : Int32) (mw : Int32) (mr : Int32) (ml : Int32) (mf : Int32) (ms : Int32) (m1 : Int64) (m2 : Int64) (m3 : Int64) (m4 : Int64) (mx : Int64) (my : Int64) (pa : Nat → Int32) (pb : Nat → Int32) (po : Nat → Int32) (i1 : Int32) (N : Nat) (r0 : Int32) (r1 : Int32) (hm : a_md_bound N mh m1 m2 m3 m4 i1 = some (r0, r1)) : Met l y_md_bound zs_md_bound rm_md_bound (zPc [.ref qm, .int i1] D [(qm, .inr (4, [.int mt, .int mh, .int ma, .int mc, .long m1, .long m2, .long m3, .long m4, .int mp, .ref qa, .ref qb, .ref qc, .int mz, .int mw, .long mx, .long my, .int mr, .int ml, .int mf, .int ms])), (qa, .inl (cI, 40, .inl pa)), (qb, .inl (cI, 40, .inl pb)), (qc, .inl (cI, 40, .inl po))] [(cI, .int), (cJ, .long)]) (zWr (some (.int r0)) D (zIn [(qm, .inr (4, [.int mt, .int mh, .int ma, .int mc, .long m1, .long m2, .long m3, .long m4, .int mp, .ref qa, .ref qb, .ref qc, .int mz, .int mw, .long mx, .long my, .int mr, .int ml, .int mf, .int ms])), (qa, .inl (cI, 40, .inl pa)), (qb, .inl (cI, 40, .inl pb)), (qc, .inl (cI, 40, .inl po))]) [(qm, .inr (4, [.int r1, .int mh, .int ma, .int mc, .long m1, .long m2, .long m3, .long m4, .int mp, .ref qa, .ref qb, .ref qc, .int mz, .int mw, .long mx, .long my, .int mr, .int ml, .int mf, .int ms])), (qa, .inl (cI, 40, .inl pa)), (qb, .inl (cI, 40, .inl pb)), (qc, .inl (cI, 40, .inl po))]) 0 0 (zIn [(qm, .inr (4, [.int mt, .int mh, .int ma, .int mc, .long m1, .long m2, .long m3, .long m4, .int mp, .ref qa, .ref qb, .ref qc, .int mz, .int mw, .long mx, .long my, .int mr, .int ml, .int mf, .int ms])), (qa, .inl (cI, 40, .inl pa)), (qb, .inl (cI, 40, .inl pb)), (qc, .inl (cI, 40, .inl po))]) := by
  refine zm (by decide) (Nat.le_of_ble_eq_true rfl) ?_
  intro p e s m args below meth c R Q hR hQ hargs hx hb hml hr hlocks hnm hB hown hP hK hD0 ls hl
  have hown : s.vm.findClass "TorsionDeskModel" = some m.cls := hown
  have hl : lv_has ls 4 [(0, .ref qm), (1, .int i1)] := hl
  obtain ⟨A, hA⟩ : ∃ A, A = zIn [(qm, .inr (4, [.int mt, .int mh, .int ma, .int mc, .long m1, .long m2, .long m3, .long m4, .int mp, .ref qa, .ref qb, .ref qc, .int mz, .int mw, .long mx, .long my, .int mr, .int ml, .int mf, .int ms])), (qa, .inl (cI, 40, .inl pa)), (qb, .inl (cI, 40, .inl pb)), (qc, .inl (cI, 40, .inl po))] := ⟨_, rfl⟩
  have hD : va_D A [(qm, .inr (4, [.int mt, .int mh, .int ma, .int mc, .long m1, .long m2, .long m3, .long m4, .int mp, .ref qa, .ref qb, .ref qc, .int mz, .int mw, .long mx, .long my, .int mr, .int ml, .int mf, .int ms])), (qa, .inl (cI, 40, .inl pa)), (qb, .inl (cI, 40, .inl pb)), (qc, .inl (cI, 40, .inl po))] := by rw [hA]; exact zIn_self hD0
  have hS : va_S A s.heap s.heap [] := va_S.rf
  rw [← hA] at hQ
  have k9 : ∀ (n : Nat) (x3_9 : Int32) (x2_9 : Int32) (H : Heap) (locs : List Loc) (ls : Array Slot), lv_has ls 4 [(0, .ref qm), (1, .int i1), (2, .int x2_9), (3, .int x3_9)] → va_P D vwCl [(qm, .inr (4, [.int (0 : Int32), .int mh, .int ma, .int mc, .long m1, .long m2, .long m3, .long m4, .int mp, .ref qa, .ref qb, .ref qc, .int mz, .int mw, .long mx, .long my, .int mr, .int ml, .int mf, .int ms])), (qa, .inl (cI, 40, .inl pa)), (qb, .inl (cI, 40, .inl pb)), (qc, .inl (cI, 40, .inl po))] H → va_D A [(qm, .inr (4, [.int (0 : Int32), .int mh, .int ma, .int mc, .long m1, .long m2, .long m3, .long m4, .int mp, .ref qa, .ref qb, .ref qc, .int mz, .int mw, .long mx, .long my, .int mr, .int ml, .int mf, .int ms])), (qa, .inl (cI, 40, .inl pa)), (qb, .inl (cI, 40, .inl pb)), (qc, .inl (cI, 40, .inl po))] → va_S A s.heap H locs → a_md_bound_L9 mh m1 m2 m3 m4 i1 n x3_9 x2_9 = some (r0, r1) → W p l e R s m args below meth c H locs 0 0 Q (F0 m 9 ls []) := by
    intro n
    induction n with
    | zero => intro x3_9 x2_9  H locs ls hl hP hD hS hm; rw [a_md_bound_L9] at hm; cases hm
    | succ n ih =>
      intro x3_9 x2_9  H locs ls hl hP hD hS hm
      rw [a_md_bound_L9] at hm
      refine lv_iload_n (pc := 9) hx hb d_md_bound_9 rfl (lv_at hl 3 rfl) ?_
      refine lv_iload_n (pc := 10) hx hb d_md_bound_10 rfl (lv_at hl 1 rfl) ?_
      refine lv_icmp_gt (pc := 11) (tgt := 62) hx hb d_md_bound_11 rfl (fun h1 => ?_) (fun h1 => ?_)
      · rw [if_pos h1] at hm
        refine lv_iload_n (pc := 62) hx hb d_md_bound_62 rfl (lv_at hl 2 rfl) ?_
        cases hm
        rw [hQ]
        exact W.iret (pc := 63) hx hb hr (fun t ht _ => ⟨rfl, by rw [ht]; exact hP, hS.F ht⟩) hS.2.2 d_md_bound_63
      rw [if_neg h1] at hm
      refine lv_iload_n (pc := 14) hx hb d_md_bound_14 rfl (lv_at hl 1 rfl) ?_
      refine lv_bipush (pc := 15) (v := (97 : Int32)) hx hb d_md_bound_15 (by decide) ?_
      refine lv_icmp_gt (pc := 17) (tgt := 62) hx hb d_md_bound_17 rfl (fun h2 => ?_) (fun h2 => ?_)
      · rw [if_pos h2] at hm
        refine lv_iload_n (pc := 62) hx hb d_md_bound_62 rfl (lv_at hl 2 rfl) ?_
        cases hm
        rw [hQ]
        exact W.iret (pc := 63) hx hb hr (fun t ht _ => ⟨rfl, by rw [ht]; exact hP, hS.F ht⟩) hS.2.2 d_md_bound_63
      rw [if_neg h2] at hm
      refine lv_aload_n (pc := 20) hx hb d_md_bound_20 rfl (lv_at hl 0 rfl) ?_
      refine va_get (pc := 21) (D := D) (ci := 4) (v := .int mh) (C := "TorsionDeskModel") (T := tX4) (N := 20) hx hb hB lX4 hown hK hP 0 rfl rfl 1 (by decide) (hB _ zw_418) (fun _ h9 => h9) rfl d_md_bound_21 ?_
      refine lv_if_eq (pc := 24) (tgt := 62) hx hb d_md_bound_24 rfl (fun h3 => ?_) (fun h3 => ?_)
      · rw [if_pos h3] at hm
        refine lv_iload_n (pc := 62) hx hb d_md_bound_62 rfl (lv_at hl 2 rfl) ?_
        cases hm
        rw [hQ]
        exact W.iret (pc := 63) hx hb hr (fun t ht _ => ⟨rfl, by rw [ht]; exact hP, hS.F ht⟩) hS.2.2 d_md_bound_63
      rw [if_neg h3] at hm
      refine lv_iload_n (pc := 27) hx hb d_md_bound_27 rfl (lv_at hl 3 rfl) ?_
      obtain ⟨r_c28, c4, hm⟩ := zbind hm
      try dsimp only at hm
      refine zcS (pc := 28) (As := [.int x3_9]) (rest := []) ⟨hx, hb, hml, hown, hB⟩ (w_a_md_isPrime l D cI cJ x3_9 n r_c28 c4) (va_cwS 1 hB (zgS zw_578 zw_579 zw_5 zw_580) rfl rfl rfl (by decide +kernel) ⟨by rw [hR]; exact Nat.le_of_ble_eq_true rfl, by rw [hR]; exact Nat.le_of_ble_eq_true rfl⟩) hK (hP.sub (ws' := []) [] rfl) (hD.sub (ws' := []) [] (by decide) rfl) rfl hl.1 rfl (Nat.le_of_ble_eq_true rfl) d_md_bound_28 ⟨Nat.zero_le _, Nat.zero_le _⟩ ?_
      refine lv_if_eq (pc := 31) (tgt := 56) hx hb d_md_bound_31 rfl (fun h5 => ?_) (fun h5 => ?_)
      · rw [if_pos h5] at hm
        refine lv_iinc (pc := 56) (k := 3) (v := x3_9 + (1 : Int32)) (lv' := [(3, .int (x3_9 + (1 : Int32))), (0, .ref qm), (1, .int i1), (2, .int x2_9)]) hx hb d_md_bound_56 hl rfl (congrArg (x3_9 + ·) (by decide)) (Nat.le_of_ble_eq_true rfl) rfl (fun ls hl => ?_)
        refine lv_goto (pc := 59) (tgt := 9) hx hb d_md_bound_59 rfl ?_
        exact ih (x3_9 + (1 : Int32)) x2_9 H locs ls (lv_sub hl [1, 2, 3, 0] rfl) hP hD hS hm
      rw [if_neg h5] at hm
      refine lv_aload_n (pc := 34) hx hb d_md_bound_34 rfl (lv_at hl 0 rfl) ?_
      refine va_get (pc := 35) (D := D) (ci := 4) (v := .long m4) (C := "TorsionDeskModel") (T := tX4) (N := 20) hx hb hB lX4 hown hK hP 0 rfl rfl 7 (by decide) (hB _ zw_424) (fun _ h9 => h9) rfl d_md_bound_35 ?_
      refine lv_iload_n (pc := 38) hx hb d_md_bound_38 rfl (lv_at hl 3 rfl) ?_
      refine lv_i2l (pc := 39) hx hb d_md_bound_39 rfl ?_
      by_cases g6 : x3_9.toInt64 = 0
      · rw [if_pos g6] at hm; cases hm
      rw [if_neg g6] at hm
      refine lv_lrem (pc := 40) hx hb d_md_bound_40 g6 ?_
      refine lv_lconst (pc := 41) (v := (0 : Int64)) hx hb d_md_bound_41 (by decide) ?_
      refine zl_eq (pc := 42) (tgt := 56) hx hb d_md_bound_42 d_md_bound_43 rfl (fun h7 => ?_) (fun h7 => ?_)
      · rw [if_pos h7] at hm
        refine lv_iinc (pc := 56) (k := 3) (v := x3_9 + (1 : Int32)) (lv' := [(3, .int (x3_9 + (1 : Int32))), (0, .ref qm), (1, .int i1), (2, .int x2_9)]) hx hb d_md_bound_56 hl rfl (congrArg (x3_9 + ·) (by decide)) (Nat.le_of_ble_eq_true rfl) rfl (fun ls hl => ?_)
        refine lv_goto (pc := 59) (tgt := 9) hx hb d_md_bound_59 rfl ?_
        exact ih (x3_9 + (1 : Int32)) x2_9 H locs ls (lv_sub hl [1, 2, 3, 0] rfl) hP hD hS hm
      rw [if_neg h7] at hm
      refine lv_iload_n (pc := 46) hx hb d_md_bound_46 rfl (lv_at hl 2 rfl) ?_
      refine lv_aload_n (pc := 47) hx hb d_md_bound_47 rfl (lv_at hl 0 rfl) ?_
      refine lv_iload_n (pc := 48) hx hb d_md_bound_48 rfl (lv_at hl 3 rfl) ?_
      obtain ⟨r_c49, c8, hm⟩ := zbind hm
      try dsimp only at hm
      refine zcV (pc := 49) (As := [.int x3_9]) (rest := [.int x2_9]) ⟨hx, hb, hml, hown, hB⟩ (w_a_md_counted l D cI cJ qm qa qb qc (0 : Int32) mh ma mc mp mz mw mr ml mf ms m1 m2 m3 m4 mx my pa pb po x3_9 n r_c49 c8) (cwV 1 hB (zgV zw_581 zw_583 zv_md_counted zw_5 zw_584) rfl rfl rfl (by decide +kernel) ⟨by rw [hR]; exact Nat.le_of_ble_eq_true rfl, by rw [hR]; exact Nat.le_of_ble_eq_true rfl⟩) hK (hP.sub (ws' := [(qm, .inr (4, [.int (0 : Int32), .int mh, .int ma, .int mc, .long m1, .long m2, .long m3, .long m4, .int mp, .ref qa, .ref qb, .ref qc, .int mz, .int mw, .long mx, .long my, .int mr, .int ml, .int mf, .int ms])), (qa, .inl (cI, 40, .inl pa)), (qb, .inl (cI, 40, .inl pb)), (qc, .inl (cI, 40, .inl po))]) [0, 1, 2, 3] rfl) (hD.sub (ws' := [(qm, .inr (4, [.int (0 : Int32), .int mh, .int ma, .int mc, .long m1, .long m2, .long m3, .long m4, .int mp, .ref qa, .ref qb, .ref qc, .int mz, .int mw, .long mx, .long my, .int mr, .int ml, .int mf, .int ms])), (qa, .inl (cI, 40, .inl pa)), (qb, .inl (cI, 40, .inl pb)), (qc, .inl (cI, 40, .inl po))]) [0, 1, 2, 3] (by decide) rfl) rfl rfl rfl rfl hl.1 rfl (Nat.le_of_ble_eq_true rfl) d_md_bound_49 ⟨Nat.zero_le _, Nat.zero_le _⟩ ?_
      obtain ⟨r_c52, c9, hm⟩ := zbind hm
      try dsimp only at hm
      refine zcS (pc := 52) (As := [.int x2_9, .int r_c49]) (rest := []) ⟨hx, hb, hml, hown, hB⟩ (w_a_md_common l D cI cJ x2_9 r_c49 n r_c52 c9) (va_cwS 2 hB (zgS zw_555 zw_556 zw_5 zw_557) rfl rfl rfl (by decide +kernel) ⟨by rw [hR]; exact Nat.le_of_ble_eq_true rfl, by rw [hR]; exact Nat.le_of_ble_eq_true rfl⟩) hK (hP.sub (ws' := []) [] rfl) (hD.sub (ws' := []) [] (by decide) rfl) rfl hl.1 rfl (Nat.le_of_ble_eq_true rfl) d_md_bound_52 ⟨Nat.zero_le _, Nat.zero_le _⟩ ?_
      refine lv_istore_n (pc := 55) (lv' := [(2, .int r_c52), (0, .ref qm), (1, .int i1), (3, .int x3_9)]) hx hb d_md_bound_55 rfl hl (Nat.le_of_ble_eq_true rfl) rfl (fun ls hl => ?_)
      refine lv_iinc (pc := 56) (k := 3) (v := x3_9 + (1 : Int32)) (lv' := [(3, .int (x3_9 + (1 : Int32))), (2, .int r_c52), (0, .ref qm), (1, .int i1)]) hx hb d_md_bound_56 hl rfl (congrArg (x3_9 + ·) (by decide)) (Nat.le_of_ble_eq_true rfl) rfl (fun ls hl => ?_)
      refine lv_goto (pc := 59) (tgt := 9) hx hb d_md_bound_59 rfl ?_
      exact ih (x3_9 + (1 : Int32)) r_c52 H locs ls (lv_sub hl [2, 3, 1, 0] rfl) hP hD hS hm
  have main : ∀ (H : Heap) (locs : List Loc), va_P D vwCl [(qm, .inr (4, [.int mt, .int mh, .int ma, .int mc, .long m1, .long m2, .long m3, .long m4, .int mp, .ref qa, .ref qb, .ref qc, .int mz, .int mw, .long mx, .long my, .int mr, .int ml, .int mf, .int ms])), (qa, .inl (cI, 40, .inl pa)), (qb, .inl (cI, 40, .inl pb)), (qc, .inl (cI, 40, .inl po))] H → va_D A [(qm, .inr (4, [.int mt, .int mh, .int ma, .int mc, .long m1, .long m2, .long m3, .long m4, .int mp, .ref qa, .ref qb, .ref qc, .int mz, .int mw, .long mx, .long my, .int mr, .int ml, .int mf, .int ms])), (qa, .inl (cI, 40, .inl pa)), (qb, .inl (cI, 40, .inl pb)), (qc, .inl (cI, 40, .inl po))] → va_S A s.heap H locs → W p l e R s m args below meth c H locs 0 0 Q (F0 m 0 ls []) := by
    intro H locs hP hD hS
    rw [a_md_bound] at hm
    refine lv_aload_n (pc := 0) hx hb d_md_bound_0 rfl (lv_at hl 0 rfl) ?_
    refine lv_iconst (pc := 1) (v := (0 : Int32)) hx hb d_md_bound_1 (by decide) ?_
    refine va_put (pc := 2) (D := D) (ci := 4) (v := .int (0 : Int32)) (ty := .int) (C := "TorsionDeskModel") (T := tX4) (N := 20) hx hb hB lX4 yX4 yX4_ok nX4 hown hK hP hD hS 0 rfl rfl 0 (by decide) (hB _ zw_417) (fun _ h9 => h9) rfl (by decide +kernel) rfl rfl (Nat.le_of_ble_eq_true rfl) d_md_bound_2 (fun H locs hP hD hS => ?_)
    have hP : va_P D vwCl [(qm, .inr (4, [.int (0 : Int32), .int mh, .int ma, .int mc, .long m1, .long m2, .long m3, .long m4, .int mp, .ref qa, .ref qb, .ref qc, .int mz, .int mw, .long mx, .long my, .int mr, .int ml, .int mf, .int ms])), (qa, .inl (cI, 40, .inl pa)), (qb, .inl (cI, 40, .inl pb)), (qc, .inl (cI, 40, .inl po))] H := hP
    have hD : va_D A [(qm, .inr (4, [.int (0 : Int32), .int mh, .int ma, .int mc, .long m1, .long m2, .long m3, .long m4, .int mp, .ref qa, .ref qb, .ref qc, .int mz, .int mw, .long mx, .long my, .int mr, .int ml, .int mf, .int ms])), (qa, .inl (cI, 40, .inl pa)), (qb, .inl (cI, 40, .inl pb)), (qc, .inl (cI, 40, .inl po))] := hD
    refine lv_iconst (pc := 5) (v := (0 : Int32)) hx hb d_md_bound_5 (by decide) ?_
    refine lv_istore_n (pc := 6) (lv' := [(2, .int (0 : Int32)), (0, .ref qm), (1, .int i1)]) hx hb d_md_bound_6 rfl hl (Nat.le_of_ble_eq_true rfl) rfl (fun ls hl => ?_)
    refine lv_iconst (pc := 7) (v := (3 : Int32)) hx hb d_md_bound_7 (by decide) ?_
    refine lv_istore_n (pc := 8) (lv' := [(3, .int (3 : Int32)), (2, .int (0 : Int32)), (0, .ref qm), (1, .int i1)]) hx hb d_md_bound_8 rfl hl (Nat.le_of_ble_eq_true rfl) rfl (fun ls hl => ?_)
    exact k9 N (3 : Int32) (0 : Int32) H locs ls (lv_sub hl [2, 3, 1, 0] rfl) hP hD hS hm
  exact main s.heap [] hP hD hS
abbrev rm_md_curve : Room := { frames := 4, cells := 0, slots := 0, locals := 109 }
def a_md_curve_L193 (i1 : Int32) (i2 : Int32) (i3 : Int32) (i4 : Int32) (i5 : Int32) : Nat → Int32 → (Nat → Int32) → (Nat → Int32) → (Nat → Int32) → Int32 → Int32 → Int32 → Int64 → Int64 → Option (Int32 × (Nat → Int32) × (Nat → Int32) × (Nat → Int32) × Int32 × Int32 × Int32 × Int32 × Int64 × Int64 × Int64 × Int64 × Int32 × Int32 × Int32 × Int64 × Int64 × Int32 × Int32 × Int32 × Int32)
  | 0, _, _, _, _, _, _, _, _, _ => none
  | n + 1, x13_193, a1_193, a2_193, a3_193, f0_8_193, f0_12_193, f0_13_193, f0_14_193, f0_15_193 => (if (1500 : Int32) < x13_193 then ((a_md_structure_x n f0_8_193 f0_12_193 f0_13_193 (((i1 * i1) + ((4 : Int32) * i2)).toInt64) ((((16 : Int32) * i4) + (((8 : Int32) * i1) * i3)).toInt64) f0_14_193 f0_15_193 a1_193 a2_193 a3_193).bind (fun (o0_12_c290, o0_13_c290, o0_14_c290, o0_15_c290, o0_16_c290, o0_17_c290, o0_18_c290, o0_19_c290) => (some (f0_8_193, a1_193, a2_193, a3_193, (0 : Int32), (1 : Int32), i1, i3, ((i1 * i1) + ((4 : Int32) * i2)).toInt64, (((16 : Int32) * i4) + (((8 : Int32) * i1) * i3)).toInt64, ((((16 : Int32) * i3) * i3) + ((64 : Int32) * i5)).toInt64, a_md_discriminantOf (((i1 * i1) + ((4 : Int32) * i2)).toInt64) ((((16 : Int32) * i4) + (((8 : Int32) * i1) * i3)).toInt64) (((((16 : Int32) * i3) * i3) + ((64 : Int32) * i5)).toInt64), f0_8_193, o0_12_c290, o0_13_c290, o0_14_c290, o0_15_c290, o0_16_c290, o0_17_c290, o0_18_c290, o0_19_c290)))) else (if (a_md_cubic (((i1 * i1) + ((4 : Int32) * i2)).toInt64) ((((16 : Int32) * i4) + (((8 : Int32) * i1) * i3)).toInt64) (((((16 : Int32) * i3) * i3) + ((64 : Int32) * i5)).toInt64) x13_193.toInt64) = (0 : Int64) then ((a_md_take n f0_8_193 (((i1 * i1) + ((4 : Int32) * i2)).toInt64) ((((16 : Int32) * i4) + (((8 : Int32) * i1) * i3)).toInt64) a1_193 a2_193 a3_193 x13_193 (0 : Int32)).bind (fun (o1_c221, o2_c221, o3_c221, o0_8_c221, o0_12_c221, o0_13_c221, o0_14_c221, o0_15_c221) => a_md_curve_L193 i1 i2 i3 i4 i5 n (x13_193 + (1 : Int32)) o1_c221 o2_c221 o3_c221 o0_8_c221 o0_12_c221 o0_13_c221 o0_14_c221 o0_15_c221)) else (if (a_md_cubic (((i1 * i1) + ((4 : Int32) * i2)).toInt64) ((((16 : Int32) * i4) + (((8 : Int32) * i1) * i3)).toInt64) (((((16 : Int32) * i3) * i3) + ((64 : Int32) * i5)).toInt64) x13_193.toInt64) ≤ (0 : Int64) then a_md_curve_L193 i1 i2 i3 i4 i5 n (x13_193 + (1 : Int32)) a1_193 a2_193 a3_193 f0_8_193 f0_12_193 f0_13_193 f0_14_193 f0_15_193 else (if (a_md_cubic (((i1 * i1) + ((4 : Int32) * i2)).toInt64) ((((16 : Int32) * i4) + (((8 : Int32) * i1) * i3)).toInt64) (((((16 : Int32) * i3) * i3) + ((64 : Int32) * i5)).toInt64) x13_193.toInt64) = 0 then none else (if ((a_md_discriminantOf (((i1 * i1) + ((4 : Int32) * i2)).toInt64) ((((16 : Int32) * i4) + (((8 : Int32) * i1) * i3)).toInt64) (((((16 : Int32) * i3) * i3) + ((64 : Int32) * i5)).toInt64)) - (a_md_discriminantOf (((i1 * i1) + ((4 : Int32) * i2)).toInt64) ((((16 : Int32) * i4) + (((8 : Int32) * i1) * i3)).toInt64) (((((16 : Int32) * i3) * i3) + ((64 : Int32) * i5)).toInt64)) / (a_md_cubic (((i1 * i1) + ((4 : Int32) * i2)).toInt64) ((((16 : Int32) * i4) + (((8 : Int32) * i1) * i3)).toInt64) (((((16 : Int32) * i3) * i3) + ((64 : Int32) * i5)).toInt64) x13_193.toInt64) * (a_md_cubic (((i1 * i1) + ((4 : Int32) * i2)).toInt64) ((((16 : Int32) * i4) + (((8 : Int32) * i1) * i3)).toInt64) (((((16 : Int32) * i3) * i3) + ((64 : Int32) * i5)).toInt64) x13_193.toInt64)) = (0 : Int64) then ((a_md_root n (a_md_cubic (((i1 * i1) + ((4 : Int32) * i2)).toInt64) ((((16 : Int32) * i4) + (((8 : Int32) * i1) * i3)).toInt64) (((((16 : Int32) * i3) * i3) + ((64 : Int32) * i5)).toInt64) x13_193.toInt64)).bind (fun r_c248 => (if (r_c248.toInt64 * r_c248.toInt64) = (a_md_cubic (((i1 * i1) + ((4 : Int32) * i2)).toInt64) ((((16 : Int32) * i4) + (((8 : Int32) * i1) * i3)).toInt64) (((((16 : Int32) * i3) * i3) + ((64 : Int32) * i5)).toInt64) x13_193.toInt64) then ((a_md_take n f0_8_193 (((i1 * i1) + ((4 : Int32) * i2)).toInt64) ((((16 : Int32) * i4) + (((8 : Int32) * i1) * i3)).toInt64) a1_193 a2_193 a3_193 x13_193 (-r_c248)).bind (fun (o1_c272, o2_c272, o3_c272, o0_8_c272, o0_12_c272, o0_13_c272, o0_14_c272, o0_15_c272) => ((a_md_take n o0_8_c272 (((i1 * i1) + ((4 : Int32) * i2)).toInt64) ((((16 : Int32) * i4) + (((8 : Int32) * i1) * i3)).toInt64) o1_c272 o2_c272 o3_c272 x13_193 r_c248).bind (fun (o1_c280, o2_c280, o3_c280, o0_8_c280, o0_12_c280, o0_13_c280, o0_14_c280, o0_15_c280) => a_md_curve_L193 i1 i2 i3 i4 i5 n (x13_193 + (1 : Int32)) o1_c280 o2_c280 o3_c280 o0_8_c280 o0_12_c280 o0_13_c280 o0_14_c280 o0_15_c280)))) else a_md_curve_L193 i1 i2 i3 i4 i5 n (x13_193 + (1 : Int32)) a1_193 a2_193 a3_193 f0_8_193 f0_12_193 f0_13_193 f0_14_193 f0_15_193))) else a_md_curve_L193 i1 i2 i3 i4 i5 n (x13_193 + (1 : Int32)) a1_193 a2_193 a3_193 f0_8_193 f0_12_193 f0_13_193 f0_14_193 f0_15_193)))))
def a_md_curve (N : Nat) (mh : Int32) (ma : Int32) (mc : Int32) (mp : Int32) (mz : Int32) (mw : Int32) (mr : Int32) (ml : Int32) (mf : Int32) (ms : Int32) (m1 : Int64) (m2 : Int64) (m3 : Int64) (m4 : Int64) (mx : Int64) (my : Int64) (pa : Nat → Int32) (pb : Nat → Int32) (po : Nat → Int32) (i1 : Int32) (i2 : Int32) (i3 : Int32) (i4 : Int32) (i5 : Int32) : Option (Int32 × (Nat → Int32) × (Nat → Int32) × (Nat → Int32) × Int32 × Int32 × Int32 × Int32 × Int64 × Int64 × Int64 × Int64 × Int32 × Int32 × Int32 × Int64 × Int64 × Int32 × Int32 × Int32 × Int32) := (if (a_md_small i1) = 0 then (some ((0 : Int32), pa, pb, po, (1 : Int32), mh, ma, mc, m1, m2, m3, m4, mp, mz, mw, mx, my, mr, ml, mf, ms)) else (if (a_md_small i2) = 0 then (some ((0 : Int32), pa, pb, po, (1 : Int32), mh, ma, mc, m1, m2, m3, m4, mp, mz, mw, mx, my, mr, ml, mf, ms)) else (if (a_md_small i3) = 0 then (some ((0 : Int32), pa, pb, po, (1 : Int32), mh, ma, mc, m1, m2, m3, m4, mp, mz, mw, mx, my, mr, ml, mf, ms)) else (if (a_md_small i4) = 0 then (some ((0 : Int32), pa, pb, po, (1 : Int32), mh, ma, mc, m1, m2, m3, m4, mp, mz, mw, mx, my, mr, ml, mf, ms)) else (if (a_md_small i5) = 0 then (some ((0 : Int32), pa, pb, po, (1 : Int32), mh, ma, mc, m1, m2, m3, m4, mp, mz, mw, mx, my, mr, ml, mf, ms)) else (if (a_md_discriminantOf (((i1 * i1) + ((4 : Int32) * i2)).toInt64) ((((16 : Int32) * i4) + (((8 : Int32) * i1) * i3)).toInt64) (((((16 : Int32) * i3) * i3) + ((64 : Int32) * i5)).toInt64)) = (0 : Int64) then (some ((0 : Int32), pa, pb, po, (2 : Int32), mh, ma, mc, m1, m2, m3, m4, mp, mz, mw, mx, my, mr, ml, mf, ms)) else a_md_curve_L193 i1 i2 i3 i4 i5 N (-120 : Int32) pa pb (upd po (0 : Int32).toNatClampNeg (1 : Int32)) (1 : Int32) mz mw mx my))))))
set_option maxHeartbeats 4000000 in
set_option maxRecDepth 100000 in
theorem w_a_md_curve (l : Launch) (D : va_G) (cI cJ : ClassId) (qm : Nat) (qa : Nat) (qb : Nat) (qc : Nat) (mt : Int32) (mh : Int32) (ma : Int32) (mc : Int32) (mp : Int32) (mz : Int32) (mw : Int32) (mr : Int32) (ml : Int32) (mf : Int32) (ms : Int32) (m1 : Int64) (m2 : Int64) (m3 : Int64) (m4 : Int64) (mx : Int64) (my : Int64) (pa : Nat → Int32) (pb : Nat → Int32) (po : Nat → Int32) (i1 : Int32) (i2 : Int32) (i3 : Int32) (i4 : Int32) (i5 : Int32) (N : Nat) (r0 : Int32) (r1 : Nat → Int32) (r2 : Nat → Int32) (r3 : Nat → Int32) (r4 : Int32) (r5 : Int32) (r6 : Int32) (r7 : Int32) (r8 : Int64) (r9 : Int64) (r10 : Int64) (r11 : Int64) (r12 : Int32) (r13 : Int32) (r14 : Int32) (r15 : Int64) (r16 : Int64) (r17 : Int32) (r18 : Int32) (r19 : Int32) (r20 : Int32) (hm : a_md_curve N mh ma mc mp mz mw mr ml mf ms m1 m2 m3 m4 mx my pa pb po i1 i2 i3 i4 i5 = some (r0, r1, r2, r3, r4, r5, r6, r7, r8, r9, r10, r11, r12, r13, r14, r15, r16, r17, r18, r19, r20)) : Met l y_md_curve zs_md_curve rm_md_curve (zPc [.ref qm, .int i1, .int i2, .int i3, .int i4, .int i5] D [(qm, .inr (4, [.int mt, .int mh, .int ma, .int mc, .long m1, .long m2, .long m3, .long m4, .int mp, .ref qa, .ref qb, .ref qc, .int mz, .int mw, .long mx, .long my, .int mr, .int ml, .int mf, .int ms])), (qa, .inl (cI, 40, .inl pa)), (qb, .inl (cI, 40, .inl pb)), (qc, .inl (cI, 40, .inl po))] [(cI, .int), (cJ, .long)]) (zWr (some (.int r0)) D (zIn [(qm, .inr (4, [.int mt, .int mh, .int ma, .int mc, .long m1, .long m2, .long m3, .long m4, .int mp, .ref qa, .ref qb, .ref qc, .int mz, .int mw, .long mx, .long my, .int mr, .int ml, .int mf, .int ms])), (qa, .inl (cI, 40, .inl pa)), (qb, .inl (cI, 40, .inl pb)), (qc, .inl (cI, 40, .inl po))]) [(qm, .inr (4, [.int r4, .int r5, .int r6, .int r7, .long r8, .long r9, .long r10, .long r11, .int r12, .ref qa, .ref qb, .ref qc, .int r13, .int r14, .long r15, .long r16, .int r17, .int r18, .int r19, .int r20])), (qa, .inl (cI, 40, .inl r1)), (qb, .inl (cI, 40, .inl r2)), (qc, .inl (cI, 40, .inl r3))]) 0 0 (zIn [(qm, .inr (4, [.int mt, .int mh, .int ma, .int mc, .long m1, .long m2, .long m3, .long m4, .int mp, .ref qa, .ref qb, .ref qc, .int mz, .int mw, .long mx, .long my, .int mr, .int ml, .int mf, .int ms])), (qa, .inl (cI, 40, .inl pa)), (qb, .inl (cI, 40, .inl pb)), (qc, .inl (cI, 40, .inl po))]) := by
  refine zm (by decide) (Nat.le_of_ble_eq_true rfl) ?_
  intro p e s m args below meth c R Q hR hQ hargs hx hb hml hr hlocks hnm hB hown hP hK hD0 ls hl
  have hown : s.vm.findClass "TorsionDeskModel" = some m.cls := hown
  have hl : lv_has ls 17 [(0, .ref qm), (1, .int i1), (2, .int i2), (3, .int i3), (4, .int i4), (5, .int i5)] := hl
  obtain ⟨A, hA⟩ : ∃ A, A = zIn [(qm, .inr (4, [.int mt, .int mh, .int ma, .int mc, .long m1, .long m2, .long m3, .long m4, .int mp, .ref qa, .ref qb, .ref qc, .int mz, .int mw, .long mx, .long my, .int mr, .int ml, .int mf, .int ms])), (qa, .inl (cI, 40, .inl pa)), (qb, .inl (cI, 40, .inl pb)), (qc, .inl (cI, 40, .inl po))] := ⟨_, rfl⟩
  have hD : va_D A [(qm, .inr (4, [.int mt, .int mh, .int ma, .int mc, .long m1, .long m2, .long m3, .long m4, .int mp, .ref qa, .ref qb, .ref qc, .int mz, .int mw, .long mx, .long my, .int mr, .int ml, .int mf, .int ms])), (qa, .inl (cI, 40, .inl pa)), (qb, .inl (cI, 40, .inl pb)), (qc, .inl (cI, 40, .inl po))] := by rw [hA]; exact zIn_self hD0
  have hS : va_S A s.heap s.heap [] := va_S.rf
  rw [← hA] at hQ
  have k193 : ∀ (n : Nat) (x13_193 : Int32) (a1_193 : Nat → Int32) (a2_193 : Nat → Int32) (a3_193 : Nat → Int32) (f0_8_193 : Int32) (f0_12_193 : Int32) (f0_13_193 : Int32) (f0_14_193 : Int64) (f0_15_193 : Int64) (H : Heap) (locs : List Loc) (ls : Array Slot), lv_has ls 17 [(0, .ref qm), (13, .int x13_193)] → va_P D vwCl [(qm, .inr (4, [.int (0 : Int32), .int (1 : Int32), .int i1, .int i3, .long (((i1 * i1) + ((4 : Int32) * i2)).toInt64), .long ((((16 : Int32) * i4) + (((8 : Int32) * i1) * i3)).toInt64), .long (((((16 : Int32) * i3) * i3) + ((64 : Int32) * i5)).toInt64), .long (a_md_discriminantOf (((i1 * i1) + ((4 : Int32) * i2)).toInt64) ((((16 : Int32) * i4) + (((8 : Int32) * i1) * i3)).toInt64) (((((16 : Int32) * i3) * i3) + ((64 : Int32) * i5)).toInt64)), .int f0_8_193, .ref qa, .ref qb, .ref qc, .int f0_12_193, .int f0_13_193, .long f0_14_193, .long f0_15_193, .int mr, .int ml, .int mf, .int ms])), (qa, .inl (cI, 40, .inl a1_193)), (qb, .inl (cI, 40, .inl a2_193)), (qc, .inl (cI, 40, .inl a3_193))] H → va_D A [(qm, .inr (4, [.int (0 : Int32), .int (1 : Int32), .int i1, .int i3, .long (((i1 * i1) + ((4 : Int32) * i2)).toInt64), .long ((((16 : Int32) * i4) + (((8 : Int32) * i1) * i3)).toInt64), .long (((((16 : Int32) * i3) * i3) + ((64 : Int32) * i5)).toInt64), .long (a_md_discriminantOf (((i1 * i1) + ((4 : Int32) * i2)).toInt64) ((((16 : Int32) * i4) + (((8 : Int32) * i1) * i3)).toInt64) (((((16 : Int32) * i3) * i3) + ((64 : Int32) * i5)).toInt64)), .int f0_8_193, .ref qa, .ref qb, .ref qc, .int f0_12_193, .int f0_13_193, .long f0_14_193, .long f0_15_193, .int mr, .int ml, .int mf, .int ms])), (qa, .inl (cI, 40, .inl a1_193)), (qb, .inl (cI, 40, .inl a2_193)), (qc, .inl (cI, 40, .inl a3_193))] → va_S A s.heap H locs → a_md_curve_L193 i1 i2 i3 i4 i5 n x13_193 a1_193 a2_193 a3_193 f0_8_193 f0_12_193 f0_13_193 f0_14_193 f0_15_193 = some (r0, r1, r2, r3, r4, r5, r6, r7, r8, r9, r10, r11, r12, r13, r14, r15, r16, r17, r18, r19, r20) → W p l e R s m args below meth c H locs 0 0 Q (F0 m 193 ls []) := by
    intro n
    induction n with
    | zero => intro x13_193 a1_193 a2_193 a3_193 f0_8_193 f0_12_193 f0_13_193 f0_14_193 f0_15_193  H locs ls hl hP hD hS hm; rw [a_md_curve_L193] at hm; cases hm
    | succ n ih =>
      intro x13_193 a1_193 a2_193 a3_193 f0_8_193 f0_12_193 f0_13_193 f0_14_193 f0_15_193  H locs ls hl hP hD hS hm
      rw [a_md_curve_L193] at hm
      refine lv_iload (pc := 193) hx hb d_md_curve_193 (lv_at hl 1 rfl) ?_
      refine lv_sipush (pc := 195) (v := (1500 : Int32)) hx hb d_md_curve_195 (by decide) ?_
      refine lv_icmp_gt (pc := 198) (tgt := 289) hx hb d_md_curve_198 rfl (fun h1 => ?_) (fun h1 => ?_)
      · rw [if_pos h1] at hm
        refine lv_aload_n (pc := 289) hx hb d_md_curve_289 rfl (lv_at hl 0 rfl) ?_
        obtain ⟨⟨o0_12_c290, o0_13_c290, o0_14_c290, o0_15_c290, o0_16_c290, o0_17_c290, o0_18_c290, o0_19_c290⟩, c2, hm⟩ := zbind hm
        try dsimp only at hm
        refine zwV (pc := 290) (As := []) (rest := []) ⟨hx, hb, hml, hown, hB⟩ (w_a_md_structure_x l D cI cJ qm qa qb qc (0 : Int32) (1 : Int32) i1 i3 f0_8_193 f0_12_193 f0_13_193 mr ml mf ms (((i1 * i1) + ((4 : Int32) * i2)).toInt64) ((((16 : Int32) * i4) + (((8 : Int32) * i1) * i3)).toInt64) (((((16 : Int32) * i3) * i3) + ((64 : Int32) * i5)).toInt64) (a_md_discriminantOf (((i1 * i1) + ((4 : Int32) * i2)).toInt64) ((((16 : Int32) * i4) + (((8 : Int32) * i1) * i3)).toInt64) (((((16 : Int32) * i3) * i3) + ((64 : Int32) * i5)).toInt64)) f0_14_193 f0_15_193 a1_193 a2_193 a3_193 n o0_12_c290 o0_13_c290 o0_14_c290 o0_15_c290 o0_16_c290 o0_17_c290 o0_18_c290 o0_19_c290 c2) (cwV 0 hB (zgV zw_515 zw_517 zv_md_structure_x zw_5 zw_518) rfl rfl rfl (by decide +kernel) ⟨by rw [hR]; exact Nat.le_of_ble_eq_true rfl, by rw [hR]; exact Nat.le_of_ble_eq_true rfl⟩) hK hP hD hS [0, 1, 2, 3] (by decide) rfl rfl rfl rfl rfl rfl hl.1 rfl (Nat.le_of_ble_eq_true rfl) d_md_curve_290 ⟨Nat.zero_le _, Nat.zero_le _⟩ (fun H locs hP hD hS => ?_)
        have hP : va_P D vwCl [(qm, .inr (4, [.int (0 : Int32), .int (1 : Int32), .int i1, .int i3, .long (((i1 * i1) + ((4 : Int32) * i2)).toInt64), .long ((((16 : Int32) * i4) + (((8 : Int32) * i1) * i3)).toInt64), .long (((((16 : Int32) * i3) * i3) + ((64 : Int32) * i5)).toInt64), .long (a_md_discriminantOf (((i1 * i1) + ((4 : Int32) * i2)).toInt64) ((((16 : Int32) * i4) + (((8 : Int32) * i1) * i3)).toInt64) (((((16 : Int32) * i3) * i3) + ((64 : Int32) * i5)).toInt64)), .int f0_8_193, .ref qa, .ref qb, .ref qc, .int o0_12_c290, .int o0_13_c290, .long o0_14_c290, .long o0_15_c290, .int o0_16_c290, .int o0_17_c290, .int o0_18_c290, .int o0_19_c290])), (qa, .inl (cI, 40, .inl a1_193)), (qb, .inl (cI, 40, .inl a2_193)), (qc, .inl (cI, 40, .inl a3_193))] H := hP
        have hD : va_D A [(qm, .inr (4, [.int (0 : Int32), .int (1 : Int32), .int i1, .int i3, .long (((i1 * i1) + ((4 : Int32) * i2)).toInt64), .long ((((16 : Int32) * i4) + (((8 : Int32) * i1) * i3)).toInt64), .long (((((16 : Int32) * i3) * i3) + ((64 : Int32) * i5)).toInt64), .long (a_md_discriminantOf (((i1 * i1) + ((4 : Int32) * i2)).toInt64) ((((16 : Int32) * i4) + (((8 : Int32) * i1) * i3)).toInt64) (((((16 : Int32) * i3) * i3) + ((64 : Int32) * i5)).toInt64)), .int f0_8_193, .ref qa, .ref qb, .ref qc, .int o0_12_c290, .int o0_13_c290, .long o0_14_c290, .long o0_15_c290, .int o0_16_c290, .int o0_17_c290, .int o0_18_c290, .int o0_19_c290])), (qa, .inl (cI, 40, .inl a1_193)), (qb, .inl (cI, 40, .inl a2_193)), (qc, .inl (cI, 40, .inl a3_193))] := hD
        refine lv_aload_n (pc := 293) hx hb d_md_curve_293 rfl (lv_at hl 0 rfl) ?_
        refine va_get (pc := 294) (D := D) (ci := 4) (v := .int f0_8_193) (C := "TorsionDeskModel") (T := tX4) (N := 20) hx hb hB lX4 hown hK hP 0 rfl rfl 8 (by decide) (hB _ zw_425) (fun _ h9 => h9) rfl d_md_curve_294 ?_
        cases hm
        rw [hQ]
        exact W.iret (pc := 297) hx hb hr (fun t ht _ => ⟨rfl, by rw [ht]; exact hP, hS.F ht⟩) hS.2.2 d_md_curve_297
      rw [if_neg h1] at hm
      refine lv_aload_n (pc := 201) hx hb d_md_curve_201 rfl (lv_at hl 0 rfl) ?_
      refine lv_iload (pc := 202) hx hb d_md_curve_202 (lv_at hl 1 rfl) ?_
      refine lv_i2l (pc := 204) hx hb d_md_curve_204 rfl ?_
      refine zcV (pc := 205) (As := [.long x13_193.toInt64]) (rest := []) ⟨hx, hb, hml, hown, hB⟩ (w_a_md_cubic l D cI cJ qm qa qb qc (0 : Int32) (1 : Int32) i1 i3 f0_8_193 f0_12_193 f0_13_193 mr ml mf ms (((i1 * i1) + ((4 : Int32) * i2)).toInt64) ((((16 : Int32) * i4) + (((8 : Int32) * i1) * i3)).toInt64) (((((16 : Int32) * i3) * i3) + ((64 : Int32) * i5)).toInt64) (a_md_discriminantOf (((i1 * i1) + ((4 : Int32) * i2)).toInt64) ((((16 : Int32) * i4) + (((8 : Int32) * i1) * i3)).toInt64) (((((16 : Int32) * i3) * i3) + ((64 : Int32) * i5)).toInt64)) f0_14_193 f0_15_193 a1_193 a2_193 a3_193 x13_193.toInt64 _ rfl) (cwV 1 hB (zgV zw_495 zw_497 zv_md_cubic zw_5 zw_498) rfl rfl rfl (by decide +kernel) ⟨by rw [hR]; exact Nat.le_of_ble_eq_true rfl, by rw [hR]; exact Nat.le_of_ble_eq_true rfl⟩) hK (hP.sub (ws' := [(qm, .inr (4, [.int (0 : Int32), .int (1 : Int32), .int i1, .int i3, .long (((i1 * i1) + ((4 : Int32) * i2)).toInt64), .long ((((16 : Int32) * i4) + (((8 : Int32) * i1) * i3)).toInt64), .long (((((16 : Int32) * i3) * i3) + ((64 : Int32) * i5)).toInt64), .long (a_md_discriminantOf (((i1 * i1) + ((4 : Int32) * i2)).toInt64) ((((16 : Int32) * i4) + (((8 : Int32) * i1) * i3)).toInt64) (((((16 : Int32) * i3) * i3) + ((64 : Int32) * i5)).toInt64)), .int f0_8_193, .ref qa, .ref qb, .ref qc, .int f0_12_193, .int f0_13_193, .long f0_14_193, .long f0_15_193, .int mr, .int ml, .int mf, .int ms])), (qa, .inl (cI, 40, .inl a1_193)), (qb, .inl (cI, 40, .inl a2_193)), (qc, .inl (cI, 40, .inl a3_193))]) [0, 1, 2, 3] rfl) (hD.sub (ws' := [(qm, .inr (4, [.int (0 : Int32), .int (1 : Int32), .int i1, .int i3, .long (((i1 * i1) + ((4 : Int32) * i2)).toInt64), .long ((((16 : Int32) * i4) + (((8 : Int32) * i1) * i3)).toInt64), .long (((((16 : Int32) * i3) * i3) + ((64 : Int32) * i5)).toInt64), .long (a_md_discriminantOf (((i1 * i1) + ((4 : Int32) * i2)).toInt64) ((((16 : Int32) * i4) + (((8 : Int32) * i1) * i3)).toInt64) (((((16 : Int32) * i3) * i3) + ((64 : Int32) * i5)).toInt64)), .int f0_8_193, .ref qa, .ref qb, .ref qc, .int f0_12_193, .int f0_13_193, .long f0_14_193, .long f0_15_193, .int mr, .int ml, .int mf, .int ms])), (qa, .inl (cI, 40, .inl a1_193)), (qb, .inl (cI, 40, .inl a2_193)), (qc, .inl (cI, 40, .inl a3_193))]) [0, 1, 2, 3] (by decide) rfl) rfl rfl rfl rfl hl.1 rfl (Nat.le_of_ble_eq_true rfl) d_md_curve_205 ⟨Nat.zero_le _, Nat.zero_le _⟩ ?_
      refine lv_lstore (pc := 208) (lv' := [(14, .long (a_md_cubic (((i1 * i1) + ((4 : Int32) * i2)).toInt64) ((((16 : Int32) * i4) + (((8 : Int32) * i1) * i3)).toInt64) (((((16 : Int32) * i3) * i3) + ((64 : Int32) * i5)).toInt64) x13_193.toInt64)), (0, .ref qm), (13, .int x13_193)]) hx hb d_md_curve_208 hl (Nat.le_of_ble_eq_true rfl) rfl (fun ls hl => ?_)
      refine lv_lload (pc := 210) hx hb d_md_curve_210 (lv_at hl 0 rfl) ?_
      refine lv_lconst (pc := 212) (v := (0 : Int64)) hx hb d_md_curve_212 (by decide) ?_
      refine zl_ne (pc := 213) (tgt := 227) hx hb d_md_curve_213 d_md_curve_214 rfl (fun h3 => ?_) (fun h3 => ?_)
      · rw [if_neg h3] at hm
        refine lv_lload (pc := 227) hx hb d_md_curve_227 (lv_at hl 0 rfl) ?_
        refine lv_lconst (pc := 229) (v := (0 : Int64)) hx hb d_md_curve_229 (by decide) ?_
        refine zl_le (pc := 230) (tgt := 283) hx hb d_md_curve_230 d_md_curve_231 rfl (fun h4 => ?_) (fun h4 => ?_)
        · rw [if_pos h4] at hm
          refine lv_iinc (pc := 283) (k := 2) (v := x13_193 + (1 : Int32)) (lv' := [(13, .int (x13_193 + (1 : Int32))), (14, .long (a_md_cubic (((i1 * i1) + ((4 : Int32) * i2)).toInt64) ((((16 : Int32) * i4) + (((8 : Int32) * i1) * i3)).toInt64) (((((16 : Int32) * i3) * i3) + ((64 : Int32) * i5)).toInt64) x13_193.toInt64)), (0, .ref qm)]) hx hb d_md_curve_283 hl rfl (congrArg (x13_193 + ·) (by decide)) (Nat.le_of_ble_eq_true rfl) rfl (fun ls hl => ?_)
          refine lv_goto (pc := 286) (tgt := 193) hx hb d_md_curve_286 rfl ?_
          exact ih (x13_193 + (1 : Int32)) a1_193 a2_193 a3_193 f0_8_193 f0_12_193 f0_13_193 f0_14_193 f0_15_193 H locs ls (lv_sub hl [2, 0] rfl) hP hD hS hm
        rw [if_neg h4] at hm
        refine lv_aload_n (pc := 234) hx hb d_md_curve_234 rfl (lv_at hl 1 rfl) ?_
        refine va_get (pc := 235) (D := D) (ci := 4) (v := .long (a_md_discriminantOf (((i1 * i1) + ((4 : Int32) * i2)).toInt64) ((((16 : Int32) * i4) + (((8 : Int32) * i1) * i3)).toInt64) (((((16 : Int32) * i3) * i3) + ((64 : Int32) * i5)).toInt64))) (C := "TorsionDeskModel") (T := tX4) (N := 20) hx hb hB lX4 hown hK hP 0 rfl rfl 7 (by decide) (hB _ zw_424) (fun _ h9 => h9) rfl d_md_curve_235 ?_
        refine lv_lload (pc := 238) hx hb d_md_curve_238 (lv_at hl 0 rfl) ?_
        by_cases g5 : (a_md_cubic (((i1 * i1) + ((4 : Int32) * i2)).toInt64) ((((16 : Int32) * i4) + (((8 : Int32) * i1) * i3)).toInt64) (((((16 : Int32) * i3) * i3) + ((64 : Int32) * i5)).toInt64) x13_193.toInt64) = 0
        · rw [if_pos g5] at hm; cases hm
        rw [if_neg g5] at hm
        refine lv_lrem (pc := 240) hx hb d_md_curve_240 g5 ?_
        refine lv_lconst (pc := 241) (v := (0 : Int64)) hx hb d_md_curve_241 (by decide) ?_
        refine zl_ne (pc := 242) (tgt := 283) hx hb d_md_curve_242 d_md_curve_243 rfl (fun h6 => ?_) (fun h6 => ?_)
        · rw [if_neg h6] at hm
          refine lv_iinc (pc := 283) (k := 2) (v := x13_193 + (1 : Int32)) (lv' := [(13, .int (x13_193 + (1 : Int32))), (14, .long (a_md_cubic (((i1 * i1) + ((4 : Int32) * i2)).toInt64) ((((16 : Int32) * i4) + (((8 : Int32) * i1) * i3)).toInt64) (((((16 : Int32) * i3) * i3) + ((64 : Int32) * i5)).toInt64) x13_193.toInt64)), (0, .ref qm)]) hx hb d_md_curve_283 hl rfl (congrArg (x13_193 + ·) (by decide)) (Nat.le_of_ble_eq_true rfl) rfl (fun ls hl => ?_)
          refine lv_goto (pc := 286) (tgt := 193) hx hb d_md_curve_286 rfl ?_
          exact ih (x13_193 + (1 : Int32)) a1_193 a2_193 a3_193 f0_8_193 f0_12_193 f0_13_193 f0_14_193 f0_15_193 H locs ls (lv_sub hl [2, 0] rfl) hP hD hS hm
        rw [if_pos h6] at hm
        refine lv_lload (pc := 246) hx hb d_md_curve_246 (lv_at hl 0 rfl) ?_
        obtain ⟨r_c248, c7, hm⟩ := zbind hm
        try dsimp only at hm
        refine zcS (pc := 248) (As := [.long (a_md_cubic (((i1 * i1) + ((4 : Int32) * i2)).toInt64) ((((16 : Int32) * i4) + (((8 : Int32) * i1) * i3)).toInt64) (((((16 : Int32) * i3) * i3) + ((64 : Int32) * i5)).toInt64) x13_193.toInt64)]) (rest := []) ⟨hx, hb, hml, hown, hB⟩ (w_a_md_root l D cI cJ (a_md_cubic (((i1 * i1) + ((4 : Int32) * i2)).toInt64) ((((16 : Int32) * i4) + (((8 : Int32) * i1) * i3)).toInt64) (((((16 : Int32) * i3) * i3) + ((64 : Int32) * i5)).toInt64) x13_193.toInt64) n r_c248 c7) (va_cwS 1 hB (zgS zw_511 zw_512 zw_5 zw_513) rfl rfl rfl (by decide +kernel) ⟨by rw [hR]; exact Nat.le_of_ble_eq_true rfl, by rw [hR]; exact Nat.le_of_ble_eq_true rfl⟩) hK (hP.sub (ws' := []) [] rfl) (hD.sub (ws' := []) [] (by decide) rfl) rfl hl.1 rfl (Nat.le_of_ble_eq_true rfl) d_md_curve_248 ⟨Nat.zero_le _, Nat.zero_le _⟩ ?_
        refine lv_istore (pc := 251) (lv' := [(16, .int r_c248), (14, .long (a_md_cubic (((i1 * i1) + ((4 : Int32) * i2)).toInt64) ((((16 : Int32) * i4) + (((8 : Int32) * i1) * i3)).toInt64) (((((16 : Int32) * i3) * i3) + ((64 : Int32) * i5)).toInt64) x13_193.toInt64)), (0, .ref qm), (13, .int x13_193)]) hx hb d_md_curve_251 hl (Nat.le_of_ble_eq_true rfl) rfl (fun ls hl => ?_)
        refine lv_iload (pc := 253) hx hb d_md_curve_253 (lv_at hl 0 rfl) ?_
        refine lv_i2l (pc := 255) hx hb d_md_curve_255 rfl ?_
        refine lv_iload (pc := 256) hx hb d_md_curve_256 (lv_at hl 0 rfl) ?_
        refine lv_i2l (pc := 258) hx hb d_md_curve_258 rfl ?_
        refine lv_lmul (pc := 259) hx hb d_md_curve_259 ?_
        refine lv_lload (pc := 260) hx hb d_md_curve_260 (lv_at hl 1 rfl) ?_
        refine zl_ne (pc := 262) (tgt := 283) hx hb d_md_curve_262 d_md_curve_263 rfl (fun h8 => ?_) (fun h8 => ?_)
        · rw [if_neg h8] at hm
          refine lv_iinc (pc := 283) (k := 3) (v := x13_193 + (1 : Int32)) (lv' := [(13, .int (x13_193 + (1 : Int32))), (16, .int r_c248), (14, .long (a_md_cubic (((i1 * i1) + ((4 : Int32) * i2)).toInt64) ((((16 : Int32) * i4) + (((8 : Int32) * i1) * i3)).toInt64) (((((16 : Int32) * i3) * i3) + ((64 : Int32) * i5)).toInt64) x13_193.toInt64)), (0, .ref qm)]) hx hb d_md_curve_283 hl rfl (congrArg (x13_193 + ·) (by decide)) (Nat.le_of_ble_eq_true rfl) rfl (fun ls hl => ?_)
          refine lv_goto (pc := 286) (tgt := 193) hx hb d_md_curve_286 rfl ?_
          exact ih (x13_193 + (1 : Int32)) a1_193 a2_193 a3_193 f0_8_193 f0_12_193 f0_13_193 f0_14_193 f0_15_193 H locs ls (lv_sub hl [3, 0] rfl) hP hD hS hm
        rw [if_pos h8] at hm
        refine lv_aload_n (pc := 266) hx hb d_md_curve_266 rfl (lv_at hl 2 rfl) ?_
        refine lv_iload (pc := 267) hx hb d_md_curve_267 (lv_at hl 3 rfl) ?_
        refine lv_iload (pc := 269) hx hb d_md_curve_269 (lv_at hl 0 rfl) ?_
        refine lv_ineg (pc := 271) hx hb d_md_curve_271 ?_
        obtain ⟨⟨o1_c272, o2_c272, o3_c272, o0_8_c272, o0_12_c272, o0_13_c272, o0_14_c272, o0_15_c272⟩, c9, hm⟩ := zbind hm
        try dsimp only at hm
        refine zwV (pc := 272) (As := [.int x13_193, .int (-r_c248)]) (rest := []) ⟨hx, hb, hml, hown, hB⟩ (w_a_md_take l D cI cJ qm qa qb qc (0 : Int32) (1 : Int32) i1 i3 f0_8_193 f0_12_193 f0_13_193 mr ml mf ms (((i1 * i1) + ((4 : Int32) * i2)).toInt64) ((((16 : Int32) * i4) + (((8 : Int32) * i1) * i3)).toInt64) (((((16 : Int32) * i3) * i3) + ((64 : Int32) * i5)).toInt64) (a_md_discriminantOf (((i1 * i1) + ((4 : Int32) * i2)).toInt64) ((((16 : Int32) * i4) + (((8 : Int32) * i1) * i3)).toInt64) (((((16 : Int32) * i3) * i3) + ((64 : Int32) * i5)).toInt64)) f0_14_193 f0_15_193 a1_193 a2_193 a3_193 x13_193 (-r_c248) n o1_c272 o2_c272 o3_c272 o0_8_c272 o0_12_c272 o0_13_c272 o0_14_c272 o0_15_c272 c9) (cwV 2 hB (zgV zw_499 zw_501 zv_md_take zw_5 zw_502) rfl rfl rfl (by decide +kernel) ⟨by rw [hR]; exact Nat.le_of_ble_eq_true rfl, by rw [hR]; exact Nat.le_of_ble_eq_true rfl⟩) hK hP hD hS [0, 1, 2, 3] (by decide) rfl rfl rfl rfl rfl rfl hl.1 rfl (Nat.le_of_ble_eq_true rfl) d_md_curve_272 ⟨Nat.zero_le _, Nat.zero_le _⟩ (fun H locs hP hD hS => ?_)
        have hP : va_P D vwCl [(qm, .inr (4, [.int (0 : Int32), .int (1 : Int32), .int i1, .int i3, .long (((i1 * i1) + ((4 : Int32) * i2)).toInt64), .long ((((16 : Int32) * i4) + (((8 : Int32) * i1) * i3)).toInt64), .long (((((16 : Int32) * i3) * i3) + ((64 : Int32) * i5)).toInt64), .long (a_md_discriminantOf (((i1 * i1) + ((4 : Int32) * i2)).toInt64) ((((16 : Int32) * i4) + (((8 : Int32) * i1) * i3)).toInt64) (((((16 : Int32) * i3) * i3) + ((64 : Int32) * i5)).toInt64)), .int o0_8_c272, .ref qa, .ref qb, .ref qc, .int o0_12_c272, .int o0_13_c272, .long o0_14_c272, .long o0_15_c272, .int mr, .int ml, .int mf, .int ms])), (qa, .inl (cI, 40, .inl o1_c272)), (qb, .inl (cI, 40, .inl o2_c272)), (qc, .inl (cI, 40, .inl o3_c272))] H := hP
        have hD : va_D A [(qm, .inr (4, [.int (0 : Int32), .int (1 : Int32), .int i1, .int i3, .long (((i1 * i1) + ((4 : Int32) * i2)).toInt64), .long ((((16 : Int32) * i4) + (((8 : Int32) * i1) * i3)).toInt64), .long (((((16 : Int32) * i3) * i3) + ((64 : Int32) * i5)).toInt64), .long (a_md_discriminantOf (((i1 * i1) + ((4 : Int32) * i2)).toInt64) ((((16 : Int32) * i4) + (((8 : Int32) * i1) * i3)).toInt64) (((((16 : Int32) * i3) * i3) + ((64 : Int32) * i5)).toInt64)), .int o0_8_c272, .ref qa, .ref qb, .ref qc, .int o0_12_c272, .int o0_13_c272, .long o0_14_c272, .long o0_15_c272, .int mr, .int ml, .int mf, .int ms])), (qa, .inl (cI, 40, .inl o1_c272)), (qb, .inl (cI, 40, .inl o2_c272)), (qc, .inl (cI, 40, .inl o3_c272))] := hD
        refine lv_aload_n (pc := 275) hx hb d_md_curve_275 rfl (lv_at hl 2 rfl) ?_
        refine lv_iload (pc := 276) hx hb d_md_curve_276 (lv_at hl 3 rfl) ?_
        refine lv_iload (pc := 278) hx hb d_md_curve_278 (lv_at hl 0 rfl) ?_
        obtain ⟨⟨o1_c280, o2_c280, o3_c280, o0_8_c280, o0_12_c280, o0_13_c280, o0_14_c280, o0_15_c280⟩, c10, hm⟩ := zbind hm
        try dsimp only at hm
        refine zwV (pc := 280) (As := [.int x13_193, .int r_c248]) (rest := []) ⟨hx, hb, hml, hown, hB⟩ (w_a_md_take l D cI cJ qm qa qb qc (0 : Int32) (1 : Int32) i1 i3 o0_8_c272 o0_12_c272 o0_13_c272 mr ml mf ms (((i1 * i1) + ((4 : Int32) * i2)).toInt64) ((((16 : Int32) * i4) + (((8 : Int32) * i1) * i3)).toInt64) (((((16 : Int32) * i3) * i3) + ((64 : Int32) * i5)).toInt64) (a_md_discriminantOf (((i1 * i1) + ((4 : Int32) * i2)).toInt64) ((((16 : Int32) * i4) + (((8 : Int32) * i1) * i3)).toInt64) (((((16 : Int32) * i3) * i3) + ((64 : Int32) * i5)).toInt64)) o0_14_c272 o0_15_c272 o1_c272 o2_c272 o3_c272 x13_193 r_c248 n o1_c280 o2_c280 o3_c280 o0_8_c280 o0_12_c280 o0_13_c280 o0_14_c280 o0_15_c280 c10) (cwV 2 hB (zgV zw_499 zw_501 zv_md_take zw_5 zw_502) rfl rfl rfl (by decide +kernel) ⟨by rw [hR]; exact Nat.le_of_ble_eq_true rfl, by rw [hR]; exact Nat.le_of_ble_eq_true rfl⟩) hK hP hD hS [0, 1, 2, 3] (by decide) rfl rfl rfl rfl rfl rfl hl.1 rfl (Nat.le_of_ble_eq_true rfl) d_md_curve_280 ⟨Nat.zero_le _, Nat.zero_le _⟩ (fun H locs hP hD hS => ?_)
        have hP : va_P D vwCl [(qm, .inr (4, [.int (0 : Int32), .int (1 : Int32), .int i1, .int i3, .long (((i1 * i1) + ((4 : Int32) * i2)).toInt64), .long ((((16 : Int32) * i4) + (((8 : Int32) * i1) * i3)).toInt64), .long (((((16 : Int32) * i3) * i3) + ((64 : Int32) * i5)).toInt64), .long (a_md_discriminantOf (((i1 * i1) + ((4 : Int32) * i2)).toInt64) ((((16 : Int32) * i4) + (((8 : Int32) * i1) * i3)).toInt64) (((((16 : Int32) * i3) * i3) + ((64 : Int32) * i5)).toInt64)), .int o0_8_c280, .ref qa, .ref qb, .ref qc, .int o0_12_c280, .int o0_13_c280, .long o0_14_c280, .long o0_15_c280, .int mr, .int ml, .int mf, .int ms])), (qa, .inl (cI, 40, .inl o1_c280)), (qb, .inl (cI, 40, .inl o2_c280)), (qc, .inl (cI, 40, .inl o3_c280))] H := hP
        have hD : va_D A [(qm, .inr (4, [.int (0 : Int32), .int (1 : Int32), .int i1, .int i3, .long (((i1 * i1) + ((4 : Int32) * i2)).toInt64), .long ((((16 : Int32) * i4) + (((8 : Int32) * i1) * i3)).toInt64), .long (((((16 : Int32) * i3) * i3) + ((64 : Int32) * i5)).toInt64), .long (a_md_discriminantOf (((i1 * i1) + ((4 : Int32) * i2)).toInt64) ((((16 : Int32) * i4) + (((8 : Int32) * i1) * i3)).toInt64) (((((16 : Int32) * i3) * i3) + ((64 : Int32) * i5)).toInt64)), .int o0_8_c280, .ref qa, .ref qb, .ref qc, .int o0_12_c280, .int o0_13_c280, .long o0_14_c280, .long o0_15_c280, .int mr, .int ml, .int mf, .int ms])), (qa, .inl (cI, 40, .inl o1_c280)), (qb, .inl (cI, 40, .inl o2_c280)), (qc, .inl (cI, 40, .inl o3_c280))] := hD
        refine lv_iinc (pc := 283) (k := 3) (v := x13_193 + (1 : Int32)) (lv' := [(13, .int (x13_193 + (1 : Int32))), (16, .int r_c248), (14, .long (a_md_cubic (((i1 * i1) + ((4 : Int32) * i2)).toInt64) ((((16 : Int32) * i4) + (((8 : Int32) * i1) * i3)).toInt64) (((((16 : Int32) * i3) * i3) + ((64 : Int32) * i5)).toInt64) x13_193.toInt64)), (0, .ref qm)]) hx hb d_md_curve_283 hl rfl (congrArg (x13_193 + ·) (by decide)) (Nat.le_of_ble_eq_true rfl) rfl (fun ls hl => ?_)
        refine lv_goto (pc := 286) (tgt := 193) hx hb d_md_curve_286 rfl ?_
        exact ih (x13_193 + (1 : Int32)) o1_c280 o2_c280 o3_c280 o0_8_c280 o0_12_c280 o0_13_c280 o0_14_c280 o0_15_c280 H locs ls (lv_sub hl [3, 0] rfl) hP hD hS hm
      rw [if_pos h3] at hm
      refine lv_aload_n (pc := 217) hx hb d_md_curve_217 rfl (lv_at hl 1 rfl) ?_
      refine lv_iload (pc := 218) hx hb d_md_curve_218 (lv_at hl 2 rfl) ?_
      refine lv_iconst (pc := 220) (v := (0 : Int32)) hx hb d_md_curve_220 (by decide) ?_
      obtain ⟨⟨o1_c221, o2_c221, o3_c221, o0_8_c221, o0_12_c221, o0_13_c221, o0_14_c221, o0_15_c221⟩, c11, hm⟩ := zbind hm
      try dsimp only at hm
      refine zwV (pc := 221) (As := [.int x13_193, .int (0 : Int32)]) (rest := []) ⟨hx, hb, hml, hown, hB⟩ (w_a_md_take l D cI cJ qm qa qb qc (0 : Int32) (1 : Int32) i1 i3 f0_8_193 f0_12_193 f0_13_193 mr ml mf ms (((i1 * i1) + ((4 : Int32) * i2)).toInt64) ((((16 : Int32) * i4) + (((8 : Int32) * i1) * i3)).toInt64) (((((16 : Int32) * i3) * i3) + ((64 : Int32) * i5)).toInt64) (a_md_discriminantOf (((i1 * i1) + ((4 : Int32) * i2)).toInt64) ((((16 : Int32) * i4) + (((8 : Int32) * i1) * i3)).toInt64) (((((16 : Int32) * i3) * i3) + ((64 : Int32) * i5)).toInt64)) f0_14_193 f0_15_193 a1_193 a2_193 a3_193 x13_193 (0 : Int32) n o1_c221 o2_c221 o3_c221 o0_8_c221 o0_12_c221 o0_13_c221 o0_14_c221 o0_15_c221 c11) (cwV 2 hB (zgV zw_499 zw_501 zv_md_take zw_5 zw_502) rfl rfl rfl (by decide +kernel) ⟨by rw [hR]; exact Nat.le_of_ble_eq_true rfl, by rw [hR]; exact Nat.le_of_ble_eq_true rfl⟩) hK hP hD hS [0, 1, 2, 3] (by decide) rfl rfl rfl rfl rfl rfl hl.1 rfl (Nat.le_of_ble_eq_true rfl) d_md_curve_221 ⟨Nat.zero_le _, Nat.zero_le _⟩ (fun H locs hP hD hS => ?_)
      have hP : va_P D vwCl [(qm, .inr (4, [.int (0 : Int32), .int (1 : Int32), .int i1, .int i3, .long (((i1 * i1) + ((4 : Int32) * i2)).toInt64), .long ((((16 : Int32) * i4) + (((8 : Int32) * i1) * i3)).toInt64), .long (((((16 : Int32) * i3) * i3) + ((64 : Int32) * i5)).toInt64), .long (a_md_discriminantOf (((i1 * i1) + ((4 : Int32) * i2)).toInt64) ((((16 : Int32) * i4) + (((8 : Int32) * i1) * i3)).toInt64) (((((16 : Int32) * i3) * i3) + ((64 : Int32) * i5)).toInt64)), .int o0_8_c221, .ref qa, .ref qb, .ref qc, .int o0_12_c221, .int o0_13_c221, .long o0_14_c221, .long o0_15_c221, .int mr, .int ml, .int mf, .int ms])), (qa, .inl (cI, 40, .inl o1_c221)), (qb, .inl (cI, 40, .inl o2_c221)), (qc, .inl (cI, 40, .inl o3_c221))] H := hP
      have hD : va_D A [(qm, .inr (4, [.int (0 : Int32), .int (1 : Int32), .int i1, .int i3, .long (((i1 * i1) + ((4 : Int32) * i2)).toInt64), .long ((((16 : Int32) * i4) + (((8 : Int32) * i1) * i3)).toInt64), .long (((((16 : Int32) * i3) * i3) + ((64 : Int32) * i5)).toInt64), .long (a_md_discriminantOf (((i1 * i1) + ((4 : Int32) * i2)).toInt64) ((((16 : Int32) * i4) + (((8 : Int32) * i1) * i3)).toInt64) (((((16 : Int32) * i3) * i3) + ((64 : Int32) * i5)).toInt64)), .int o0_8_c221, .ref qa, .ref qb, .ref qc, .int o0_12_c221, .int o0_13_c221, .long o0_14_c221, .long o0_15_c221, .int mr, .int ml, .int mf, .int ms])), (qa, .inl (cI, 40, .inl o1_c221)), (qb, .inl (cI, 40, .inl o2_c221)), (qc, .inl (cI, 40, .inl o3_c221))] := hD
      refine lv_goto (pc := 224) (tgt := 283) hx hb d_md_curve_224 rfl ?_
      refine lv_iinc (pc := 283) (k := 2) (v := x13_193 + (1 : Int32)) (lv' := [(13, .int (x13_193 + (1 : Int32))), (14, .long (a_md_cubic (((i1 * i1) + ((4 : Int32) * i2)).toInt64) ((((16 : Int32) * i4) + (((8 : Int32) * i1) * i3)).toInt64) (((((16 : Int32) * i3) * i3) + ((64 : Int32) * i5)).toInt64) x13_193.toInt64)), (0, .ref qm)]) hx hb d_md_curve_283 hl rfl (congrArg (x13_193 + ·) (by decide)) (Nat.le_of_ble_eq_true rfl) rfl (fun ls hl => ?_)
      refine lv_goto (pc := 286) (tgt := 193) hx hb d_md_curve_286 rfl ?_
      exact ih (x13_193 + (1 : Int32)) o1_c221 o2_c221 o3_c221 o0_8_c221 o0_12_c221 o0_13_c221 o0_14_c221 o0_15_c221 H locs ls (lv_sub hl [2, 0] rfl) hP hD hS hm
  have main : ∀ (H : Heap) (locs : List Loc), va_P D vwCl [(qm, .inr (4, [.int mt, .int mh, .int ma, .int mc, .long m1, .long m2, .long m3, .long m4, .int mp, .ref qa, .ref qb, .ref qc, .int mz, .int mw, .long mx, .long my, .int mr, .int ml, .int mf, .int ms])), (qa, .inl (cI, 40, .inl pa)), (qb, .inl (cI, 40, .inl pb)), (qc, .inl (cI, 40, .inl po))] H → va_D A [(qm, .inr (4, [.int mt, .int mh, .int ma, .int mc, .long m1, .long m2, .long m3, .long m4, .int mp, .ref qa, .ref qb, .ref qc, .int mz, .int mw, .long mx, .long my, .int mr, .int ml, .int mf, .int ms])), (qa, .inl (cI, 40, .inl pa)), (qb, .inl (cI, 40, .inl pb)), (qc, .inl (cI, 40, .inl po))] → va_S A s.heap H locs → W p l e R s m args below meth c H locs 0 0 Q (F0 m 0 ls []) := by
    intro H locs hP hD hS
    rw [a_md_curve] at hm
    refine lv_iload_n (pc := 0) hx hb d_md_curve_0 rfl (lv_at hl 1 rfl) ?_
    refine zcS (pc := 1) (As := [.int i1]) (rest := []) ⟨hx, hb, hml, hown, hB⟩ (w_a_md_small l D cI cJ i1 _ rfl) (va_cwS 1 hB (zgS zw_486 zw_487 zw_5 zw_488) rfl rfl rfl (by decide +kernel) ⟨by rw [hR]; exact Nat.le_of_ble_eq_true rfl, by rw [hR]; exact Nat.le_of_ble_eq_true rfl⟩) hK (hP.sub (ws' := []) [] rfl) (hD.sub (ws' := []) [] (by decide) rfl) rfl hl.1 rfl (Nat.le_of_ble_eq_true rfl) d_md_curve_1 ⟨Nat.zero_le _, Nat.zero_le _⟩ ?_
    refine lv_if_eq (pc := 4) (tgt := 41) hx hb d_md_curve_4 rfl (fun h1 => ?_) (fun h1 => ?_)
    · rw [if_pos h1] at hm
      refine lv_iconst (pc := 41) (v := (0 : Int32)) hx hb d_md_curve_41 (by decide) ?_
      refine lv_istore (pc := 42) (lv' := [(6, .int (0 : Int32)), (0, .ref qm), (1, .int i1), (2, .int i2), (3, .int i3), (4, .int i4), (5, .int i5)]) hx hb d_md_curve_42 hl (Nat.le_of_ble_eq_true rfl) rfl (fun ls hl => ?_)
      refine lv_iload_n (pc := 44) hx hb d_md_curve_44 rfl (lv_at hl 2 rfl) ?_
      refine lv_iload_n (pc := 45) hx hb d_md_curve_45 rfl (lv_at hl 2 rfl) ?_
      refine lv_imul (pc := 46) hx hb d_md_curve_46 ?_
      refine lv_iconst (pc := 47) (v := (4 : Int32)) hx hb d_md_curve_47 (by decide) ?_
      refine lv_iload_n (pc := 48) hx hb d_md_curve_48 rfl (lv_at hl 3 rfl) ?_
      refine lv_imul (pc := 49) hx hb d_md_curve_49 ?_
      refine lv_iadd (pc := 50) hx hb d_md_curve_50 ?_
      refine lv_i2l (pc := 51) hx hb d_md_curve_51 rfl ?_
      refine lv_lstore (pc := 52) (lv' := [(7, .long (((i1 * i1) + ((4 : Int32) * i2)).toInt64)), (6, .int (0 : Int32)), (0, .ref qm), (1, .int i1), (2, .int i2), (3, .int i3), (4, .int i4), (5, .int i5)]) hx hb d_md_curve_52 hl (Nat.le_of_ble_eq_true rfl) rfl (fun ls hl => ?_)
      refine lv_bipush (pc := 54) (v := (16 : Int32)) hx hb d_md_curve_54 (by decide) ?_
      refine lv_iload (pc := 56) hx hb d_md_curve_56 (lv_at hl 6 rfl) ?_
      refine lv_imul (pc := 58) hx hb d_md_curve_58 ?_
      refine lv_bipush (pc := 59) (v := (8 : Int32)) hx hb d_md_curve_59 (by decide) ?_
      refine lv_iload_n (pc := 61) hx hb d_md_curve_61 rfl (lv_at hl 3 rfl) ?_
      refine lv_imul (pc := 62) hx hb d_md_curve_62 ?_
      refine lv_iload_n (pc := 63) hx hb d_md_curve_63 rfl (lv_at hl 5 rfl) ?_
      refine lv_imul (pc := 64) hx hb d_md_curve_64 ?_
      refine lv_iadd (pc := 65) hx hb d_md_curve_65 ?_
      refine lv_i2l (pc := 66) hx hb d_md_curve_66 rfl ?_
      refine lv_lstore (pc := 67) (lv' := [(9, .long ((((16 : Int32) * i4) + (((8 : Int32) * i1) * i3)).toInt64)), (7, .long (((i1 * i1) + ((4 : Int32) * i2)).toInt64)), (6, .int (0 : Int32)), (0, .ref qm), (1, .int i1), (2, .int i2), (3, .int i3), (4, .int i4), (5, .int i5)]) hx hb d_md_curve_67 hl (Nat.le_of_ble_eq_true rfl) rfl (fun ls hl => ?_)
      refine lv_bipush (pc := 69) (v := (16 : Int32)) hx hb d_md_curve_69 (by decide) ?_
      refine lv_iload_n (pc := 71) hx hb d_md_curve_71 rfl (lv_at hl 6 rfl) ?_
      refine lv_imul (pc := 72) hx hb d_md_curve_72 ?_
      refine lv_iload_n (pc := 73) hx hb d_md_curve_73 rfl (lv_at hl 6 rfl) ?_
      refine lv_imul (pc := 74) hx hb d_md_curve_74 ?_
      refine lv_bipush (pc := 75) (v := (64 : Int32)) hx hb d_md_curve_75 (by decide) ?_
      refine lv_iload (pc := 77) hx hb d_md_curve_77 (lv_at hl 8 rfl) ?_
      refine lv_imul (pc := 79) hx hb d_md_curve_79 ?_
      refine lv_iadd (pc := 80) hx hb d_md_curve_80 ?_
      refine lv_i2l (pc := 81) hx hb d_md_curve_81 rfl ?_
      refine lv_lstore (pc := 82) (lv' := [(11, .long (((((16 : Int32) * i3) * i3) + ((64 : Int32) * i5)).toInt64)), (9, .long ((((16 : Int32) * i4) + (((8 : Int32) * i1) * i3)).toInt64)), (7, .long (((i1 * i1) + ((4 : Int32) * i2)).toInt64)), (6, .int (0 : Int32)), (0, .ref qm), (1, .int i1), (2, .int i2), (3, .int i3), (4, .int i4), (5, .int i5)]) hx hb d_md_curve_82 hl (Nat.le_of_ble_eq_true rfl) rfl (fun ls hl => ?_)
      refine lv_aload_n (pc := 84) hx hb d_md_curve_84 rfl (lv_at hl 4 rfl) ?_
      refine lv_iload (pc := 85) hx hb d_md_curve_85 (lv_at hl 3 rfl) ?_
      refine lv_if_ne (pc := 87) (tgt := 94) hx hb d_md_curve_87 rfl (fun h9 => absurd (by decide) h9) (fun _ => ?_)
      refine lv_iconst (pc := 90) (v := (1 : Int32)) hx hb d_md_curve_90 (by decide) ?_
      refine lv_goto (pc := 91) (tgt := 113) hx hb d_md_curve_91 rfl ?_
      refine va_put (pc := 113) (D := D) (ci := 4) (v := .int (1 : Int32)) (ty := .int) (C := "TorsionDeskModel") (T := tX4) (N := 20) hx hb hB lX4 yX4 yX4_ok nX4 hown hK hP hD hS 0 rfl rfl 0 (by decide) (hB _ zw_417) (fun _ h9 => h9) rfl (by decide +kernel) rfl rfl (Nat.le_of_ble_eq_true rfl) d_md_curve_113 (fun H locs hP hD hS => ?_)
      have hP : va_P D vwCl [(qm, .inr (4, [.int (1 : Int32), .int mh, .int ma, .int mc, .long m1, .long m2, .long m3, .long m4, .int mp, .ref qa, .ref qb, .ref qc, .int mz, .int mw, .long mx, .long my, .int mr, .int ml, .int mf, .int ms])), (qa, .inl (cI, 40, .inl pa)), (qb, .inl (cI, 40, .inl pb)), (qc, .inl (cI, 40, .inl po))] H := hP
      have hD : va_D A [(qm, .inr (4, [.int (1 : Int32), .int mh, .int ma, .int mc, .long m1, .long m2, .long m3, .long m4, .int mp, .ref qa, .ref qb, .ref qc, .int mz, .int mw, .long mx, .long my, .int mr, .int ml, .int mf, .int ms])), (qa, .inl (cI, 40, .inl pa)), (qb, .inl (cI, 40, .inl pb)), (qc, .inl (cI, 40, .inl po))] := hD
      refine lv_aload_n (pc := 116) hx hb d_md_curve_116 rfl (lv_at hl 4 rfl) ?_
      refine va_get (pc := 117) (D := D) (ci := 4) (v := .int (1 : Int32)) (C := "TorsionDeskModel") (T := tX4) (N := 20) hx hb hB lX4 hown hK hP 0 rfl rfl 0 (by decide) (hB _ zw_417) (fun _ h9 => h9) rfl d_md_curve_117 ?_
      refine lv_if_le (pc := 120) (tgt := 125) hx hb d_md_curve_120 rfl (fun h9 => absurd h9 (by decide)) (fun _ => ?_)
      refine lv_iconst (pc := 123) (v := (0 : Int32)) hx hb d_md_curve_123 (by decide) ?_
      cases hm
      rw [hQ]
      exact W.iret (pc := 124) hx hb hr (fun t ht _ => ⟨rfl, by rw [ht]; exact hP, hS.F ht⟩) hS.2.2 d_md_curve_124
    rw [if_neg h1] at hm
    refine lv_iload_n (pc := 7) hx hb d_md_curve_7 rfl (lv_at hl 2 rfl) ?_
    refine zcS (pc := 8) (As := [.int i2]) (rest := []) ⟨hx, hb, hml, hown, hB⟩ (w_a_md_small l D cI cJ i2 _ rfl) (va_cwS 1 hB (zgS zw_486 zw_487 zw_5 zw_488) rfl rfl rfl (by decide +kernel) ⟨by rw [hR]; exact Nat.le_of_ble_eq_true rfl, by rw [hR]; exact Nat.le_of_ble_eq_true rfl⟩) hK (hP.sub (ws' := []) [] rfl) (hD.sub (ws' := []) [] (by decide) rfl) rfl hl.1 rfl (Nat.le_of_ble_eq_true rfl) d_md_curve_8 ⟨Nat.zero_le _, Nat.zero_le _⟩ ?_
    refine lv_if_eq (pc := 11) (tgt := 41) hx hb d_md_curve_11 rfl (fun h2 => ?_) (fun h2 => ?_)
    · rw [if_pos h2] at hm
      refine lv_iconst (pc := 41) (v := (0 : Int32)) hx hb d_md_curve_41 (by decide) ?_
      refine lv_istore (pc := 42) (lv' := [(6, .int (0 : Int32)), (0, .ref qm), (1, .int i1), (2, .int i2), (3, .int i3), (4, .int i4), (5, .int i5)]) hx hb d_md_curve_42 hl (Nat.le_of_ble_eq_true rfl) rfl (fun ls hl => ?_)
      refine lv_iload_n (pc := 44) hx hb d_md_curve_44 rfl (lv_at hl 2 rfl) ?_
      refine lv_iload_n (pc := 45) hx hb d_md_curve_45 rfl (lv_at hl 2 rfl) ?_
      refine lv_imul (pc := 46) hx hb d_md_curve_46 ?_
      refine lv_iconst (pc := 47) (v := (4 : Int32)) hx hb d_md_curve_47 (by decide) ?_
      refine lv_iload_n (pc := 48) hx hb d_md_curve_48 rfl (lv_at hl 3 rfl) ?_
      refine lv_imul (pc := 49) hx hb d_md_curve_49 ?_
      refine lv_iadd (pc := 50) hx hb d_md_curve_50 ?_
      refine lv_i2l (pc := 51) hx hb d_md_curve_51 rfl ?_
      refine lv_lstore (pc := 52) (lv' := [(7, .long (((i1 * i1) + ((4 : Int32) * i2)).toInt64)), (6, .int (0 : Int32)), (0, .ref qm), (1, .int i1), (2, .int i2), (3, .int i3), (4, .int i4), (5, .int i5)]) hx hb d_md_curve_52 hl (Nat.le_of_ble_eq_true rfl) rfl (fun ls hl => ?_)
      refine lv_bipush (pc := 54) (v := (16 : Int32)) hx hb d_md_curve_54 (by decide) ?_
      refine lv_iload (pc := 56) hx hb d_md_curve_56 (lv_at hl 6 rfl) ?_
      refine lv_imul (pc := 58) hx hb d_md_curve_58 ?_
      refine lv_bipush (pc := 59) (v := (8 : Int32)) hx hb d_md_curve_59 (by decide) ?_
      refine lv_iload_n (pc := 61) hx hb d_md_curve_61 rfl (lv_at hl 3 rfl) ?_
      refine lv_imul (pc := 62) hx hb d_md_curve_62 ?_
      refine lv_iload_n (pc := 63) hx hb d_md_curve_63 rfl (lv_at hl 5 rfl) ?_
      refine lv_imul (pc := 64) hx hb d_md_curve_64 ?_
      refine lv_iadd (pc := 65) hx hb d_md_curve_65 ?_
      refine lv_i2l (pc := 66) hx hb d_md_curve_66 rfl ?_
      refine lv_lstore (pc := 67) (lv' := [(9, .long ((((16 : Int32) * i4) + (((8 : Int32) * i1) * i3)).toInt64)), (7, .long (((i1 * i1) + ((4 : Int32) * i2)).toInt64)), (6, .int (0 : Int32)), (0, .ref qm), (1, .int i1), (2, .int i2), (3, .int i3), (4, .int i4), (5, .int i5)]) hx hb d_md_curve_67 hl (Nat.le_of_ble_eq_true rfl) rfl (fun ls hl => ?_)
      refine lv_bipush (pc := 69) (v := (16 : Int32)) hx hb d_md_curve_69 (by decide) ?_
      refine lv_iload_n (pc := 71) hx hb d_md_curve_71 rfl (lv_at hl 6 rfl) ?_
      refine lv_imul (pc := 72) hx hb d_md_curve_72 ?_
      refine lv_iload_n (pc := 73) hx hb d_md_curve_73 rfl (lv_at hl 6 rfl) ?_
      refine lv_imul (pc := 74) hx hb d_md_curve_74 ?_
      refine lv_bipush (pc := 75) (v := (64 : Int32)) hx hb d_md_curve_75 (by decide) ?_
      refine lv_iload (pc := 77) hx hb d_md_curve_77 (lv_at hl 8 rfl) ?_
      refine lv_imul (pc := 79) hx hb d_md_curve_79 ?_
      refine lv_iadd (pc := 80) hx hb d_md_curve_80 ?_
      refine lv_i2l (pc := 81) hx hb d_md_curve_81 rfl ?_
      refine lv_lstore (pc := 82) (lv' := [(11, .long (((((16 : Int32) * i3) * i3) + ((64 : Int32) * i5)).toInt64)), (9, .long ((((16 : Int32) * i4) + (((8 : Int32) * i1) * i3)).toInt64)), (7, .long (((i1 * i1) + ((4 : Int32) * i2)).toInt64)), (6, .int (0 : Int32)), (0, .ref qm), (1, .int i1), (2, .int i2), (3, .int i3), (4, .int i4), (5, .int i5)]) hx hb d_md_curve_82 hl (Nat.le_of_ble_eq_true rfl) rfl (fun ls hl => ?_)
      refine lv_aload_n (pc := 84) hx hb d_md_curve_84 rfl (lv_at hl 4 rfl) ?_
      refine lv_iload (pc := 85) hx hb d_md_curve_85 (lv_at hl 3 rfl) ?_
      refine lv_if_ne (pc := 87) (tgt := 94) hx hb d_md_curve_87 rfl (fun h9 => absurd (by decide) h9) (fun _ => ?_)
      refine lv_iconst (pc := 90) (v := (1 : Int32)) hx hb d_md_curve_90 (by decide) ?_
      refine lv_goto (pc := 91) (tgt := 113) hx hb d_md_curve_91 rfl ?_
      refine va_put (pc := 113) (D := D) (ci := 4) (v := .int (1 : Int32)) (ty := .int) (C := "TorsionDeskModel") (T := tX4) (N := 20) hx hb hB lX4 yX4 yX4_ok nX4 hown hK hP hD hS 0 rfl rfl 0 (by decide) (hB _ zw_417) (fun _ h9 => h9) rfl (by decide +kernel) rfl rfl (Nat.le_of_ble_eq_true rfl) d_md_curve_113 (fun H locs hP hD hS => ?_)
      have hP : va_P D vwCl [(qm, .inr (4, [.int (1 : Int32), .int mh, .int ma, .int mc, .long m1, .long m2, .long m3, .long m4, .int mp, .ref qa, .ref qb, .ref qc, .int mz, .int mw, .long mx, .long my, .int mr, .int ml, .int mf, .int ms])), (qa, .inl (cI, 40, .inl pa)), (qb, .inl (cI, 40, .inl pb)), (qc, .inl (cI, 40, .inl po))] H := hP
      have hD : va_D A [(qm, .inr (4, [.int (1 : Int32), .int mh, .int ma, .int mc, .long m1, .long m2, .long m3, .long m4, .int mp, .ref qa, .ref qb, .ref qc, .int mz, .int mw, .long mx, .long my, .int mr, .int ml, .int mf, .int ms])), (qa, .inl (cI, 40, .inl pa)), (qb, .inl (cI, 40, .inl pb)), (qc, .inl (cI, 40, .inl po))] := hD
      refine lv_aload_n (pc := 116) hx hb d_md_curve_116 rfl (lv_at hl 4 rfl) ?_
      refine va_get (pc := 117) (D := D) (ci := 4) (v := .int (1 : Int32)) (C := "TorsionDeskModel") (T := tX4) (N := 20) hx hb hB lX4 hown hK hP 0 rfl rfl 0 (by decide) (hB _ zw_417) (fun _ h9 => h9) rfl d_md_curve_117 ?_
      refine lv_if_le (pc := 120) (tgt := 125) hx hb d_md_curve_120 rfl (fun h9 => absurd h9 (by decide)) (fun _ => ?_)
      refine lv_iconst (pc := 123) (v := (0 : Int32)) hx hb d_md_curve_123 (by decide) ?_
      cases hm
      rw [hQ]
      exact W.iret (pc := 124) hx hb hr (fun t ht _ => ⟨rfl, by rw [ht]; exact hP, hS.F ht⟩) hS.2.2 d_md_curve_124
    rw [if_neg h2] at hm
    refine lv_iload_n (pc := 14) hx hb d_md_curve_14 rfl (lv_at hl 3 rfl) ?_
    refine zcS (pc := 15) (As := [.int i3]) (rest := []) ⟨hx, hb, hml, hown, hB⟩ (w_a_md_small l D cI cJ i3 _ rfl) (va_cwS 1 hB (zgS zw_486 zw_487 zw_5 zw_488) rfl rfl rfl (by decide +kernel) ⟨by rw [hR]; exact Nat.le_of_ble_eq_true rfl, by rw [hR]; exact Nat.le_of_ble_eq_true rfl⟩) hK (hP.sub (ws' := []) [] rfl) (hD.sub (ws' := []) [] (by decide) rfl) rfl hl.1 rfl (Nat.le_of_ble_eq_true rfl) d_md_curve_15 ⟨Nat.zero_le _, Nat.zero_le _⟩ ?_
    refine lv_if_eq (pc := 18) (tgt := 41) hx hb d_md_curve_18 rfl (fun h3 => ?_) (fun h3 => ?_)
    · rw [if_pos h3] at hm
      refine lv_iconst (pc := 41) (v := (0 : Int32)) hx hb d_md_curve_41 (by decide) ?_
      refine lv_istore (pc := 42) (lv' := [(6, .int (0 : Int32)), (0, .ref qm), (1, .int i1), (2, .int i2), (3, .int i3), (4, .int i4), (5, .int i5)]) hx hb d_md_curve_42 hl (Nat.le_of_ble_eq_true rfl) rfl (fun ls hl => ?_)
      refine lv_iload_n (pc := 44) hx hb d_md_curve_44 rfl (lv_at hl 2 rfl) ?_
      refine lv_iload_n (pc := 45) hx hb d_md_curve_45 rfl (lv_at hl 2 rfl) ?_
      refine lv_imul (pc := 46) hx hb d_md_curve_46 ?_
      refine lv_iconst (pc := 47) (v := (4 : Int32)) hx hb d_md_curve_47 (by decide) ?_
      refine lv_iload_n (pc := 48) hx hb d_md_curve_48 rfl (lv_at hl 3 rfl) ?_
      refine lv_imul (pc := 49) hx hb d_md_curve_49 ?_
      refine lv_iadd (pc := 50) hx hb d_md_curve_50 ?_
      refine lv_i2l (pc := 51) hx hb d_md_curve_51 rfl ?_
      refine lv_lstore (pc := 52) (lv' := [(7, .long (((i1 * i1) + ((4 : Int32) * i2)).toInt64)), (6, .int (0 : Int32)), (0, .ref qm), (1, .int i1), (2, .int i2), (3, .int i3), (4, .int i4), (5, .int i5)]) hx hb d_md_curve_52 hl (Nat.le_of_ble_eq_true rfl) rfl (fun ls hl => ?_)
      refine lv_bipush (pc := 54) (v := (16 : Int32)) hx hb d_md_curve_54 (by decide) ?_
      refine lv_iload (pc := 56) hx hb d_md_curve_56 (lv_at hl 6 rfl) ?_
      refine lv_imul (pc := 58) hx hb d_md_curve_58 ?_
      refine lv_bipush (pc := 59) (v := (8 : Int32)) hx hb d_md_curve_59 (by decide) ?_
      refine lv_iload_n (pc := 61) hx hb d_md_curve_61 rfl (lv_at hl 3 rfl) ?_
      refine lv_imul (pc := 62) hx hb d_md_curve_62 ?_
      refine lv_iload_n (pc := 63) hx hb d_md_curve_63 rfl (lv_at hl 5 rfl) ?_
      refine lv_imul (pc := 64) hx hb d_md_curve_64 ?_
      refine lv_iadd (pc := 65) hx hb d_md_curve_65 ?_
      refine lv_i2l (pc := 66) hx hb d_md_curve_66 rfl ?_
      refine lv_lstore (pc := 67) (lv' := [(9, .long ((((16 : Int32) * i4) + (((8 : Int32) * i1) * i3)).toInt64)), (7, .long (((i1 * i1) + ((4 : Int32) * i2)).toInt64)), (6, .int (0 : Int32)), (0, .ref qm), (1, .int i1), (2, .int i2), (3, .int i3), (4, .int i4), (5, .int i5)]) hx hb d_md_curve_67 hl (Nat.le_of_ble_eq_true rfl) rfl (fun ls hl => ?_)
      refine lv_bipush (pc := 69) (v := (16 : Int32)) hx hb d_md_curve_69 (by decide) ?_
      refine lv_iload_n (pc := 71) hx hb d_md_curve_71 rfl (lv_at hl 6 rfl) ?_
      refine lv_imul (pc := 72) hx hb d_md_curve_72 ?_
      refine lv_iload_n (pc := 73) hx hb d_md_curve_73 rfl (lv_at hl 6 rfl) ?_
      refine lv_imul (pc := 74) hx hb d_md_curve_74 ?_
      refine lv_bipush (pc := 75) (v := (64 : Int32)) hx hb d_md_curve_75 (by decide) ?_
      refine lv_iload (pc := 77) hx hb d_md_curve_77 (lv_at hl 8 rfl) ?_
      refine lv_imul (pc := 79) hx hb d_md_curve_79 ?_
      refine lv_iadd (pc := 80) hx hb d_md_curve_80 ?_
      refine lv_i2l (pc := 81) hx hb d_md_curve_81 rfl ?_
      refine lv_lstore (pc := 82) (lv' := [(11, .long (((((16 : Int32) * i3) * i3) + ((64 : Int32) * i5)).toInt64)), (9, .long ((((16 : Int32) * i4) + (((8 : Int32) * i1) * i3)).toInt64)), (7, .long (((i1 * i1) + ((4 : Int32) * i2)).toInt64)), (6, .int (0 : Int32)), (0, .ref qm), (1, .int i1), (2, .int i2), (3, .int i3), (4, .int i4), (5, .int i5)]) hx hb d_md_curve_82 hl (Nat.le_of_ble_eq_true rfl) rfl (fun ls hl => ?_)
      refine lv_aload_n (pc := 84) hx hb d_md_curve_84 rfl (lv_at hl 4 rfl) ?_
      refine lv_iload (pc := 85) hx hb d_md_curve_85 (lv_at hl 3 rfl) ?_
      refine lv_if_ne (pc := 87) (tgt := 94) hx hb d_md_curve_87 rfl (fun h9 => absurd (by decide) h9) (fun _ => ?_)
      refine lv_iconst (pc := 90) (v := (1 : Int32)) hx hb d_md_curve_90 (by decide) ?_
      refine lv_goto (pc := 91) (tgt := 113) hx hb d_md_curve_91 rfl ?_
      refine va_put (pc := 113) (D := D) (ci := 4) (v := .int (1 : Int32)) (ty := .int) (C := "TorsionDeskModel") (T := tX4) (N := 20) hx hb hB lX4 yX4 yX4_ok nX4 hown hK hP hD hS 0 rfl rfl 0 (by decide) (hB _ zw_417) (fun _ h9 => h9) rfl (by decide +kernel) rfl rfl (Nat.le_of_ble_eq_true rfl) d_md_curve_113 (fun H locs hP hD hS => ?_)
      have hP : va_P D vwCl [(qm, .inr (4, [.int (1 : Int32), .int mh, .int ma, .int mc, .long m1, .long m2, .long m3, .long m4, .int mp, .ref qa, .ref qb, .ref qc, .int mz, .int mw, .long mx, .long my, .int mr, .int ml, .int mf, .int ms])), (qa, .inl (cI, 40, .inl pa)), (qb, .inl (cI, 40, .inl pb)), (qc, .inl (cI, 40, .inl po))] H := hP
      have hD : va_D A [(qm, .inr (4, [.int (1 : Int32), .int mh, .int ma, .int mc, .long m1, .long m2, .long m3, .long m4, .int mp, .ref qa, .ref qb, .ref qc, .int mz, .int mw, .long mx, .long my, .int mr, .int ml, .int mf, .int ms])), (qa, .inl (cI, 40, .inl pa)), (qb, .inl (cI, 40, .inl pb)), (qc, .inl (cI, 40, .inl po))] := hD
      refine lv_aload_n (pc := 116) hx hb d_md_curve_116 rfl (lv_at hl 4 rfl) ?_
      refine va_get (pc := 117) (D := D) (ci := 4) (v := .int (1 : Int32)) (C := "TorsionDeskModel") (T := tX4) (N := 20) hx hb hB lX4 hown hK hP 0 rfl rfl 0 (by decide) (hB _ zw_417) (fun _ h9 => h9) rfl d_md_curve_117 ?_
      refine lv_if_le (pc := 120) (tgt := 125) hx hb d_md_curve_120 rfl (fun h9 => absurd h9 (by decide)) (fun _ => ?_)
      refine lv_iconst (pc := 123) (v := (0 : Int32)) hx hb d_md_curve_123 (by decide) ?_
      cases hm
      rw [hQ]
      exact W.iret (pc := 124) hx hb hr (fun t ht _ => ⟨rfl, by rw [ht]; exact hP, hS.F ht⟩) hS.2.2 d_md_curve_124
    rw [if_neg h3] at hm
    refine lv_iload (pc := 21) hx hb d_md_curve_21 (lv_at hl 4 rfl) ?_
    refine zcS (pc := 23) (As := [.int i4]) (rest := []) ⟨hx, hb, hml, hown, hB⟩ (w_a_md_small l D cI cJ i4 _ rfl) (va_cwS 1 hB (zgS zw_486 zw_487 zw_5 zw_488) rfl rfl rfl (by decide +kernel) ⟨by rw [hR]; exact Nat.le_of_ble_eq_true rfl, by rw [hR]; exact Nat.le_of_ble_eq_true rfl⟩) hK (hP.sub (ws' := []) [] rfl) (hD.sub (ws' := []) [] (by decide) rfl) rfl hl.1 rfl (Nat.le_of_ble_eq_true rfl) d_md_curve_23 ⟨Nat.zero_le _, Nat.zero_le _⟩ ?_
    refine lv_if_eq (pc := 26) (tgt := 41) hx hb d_md_curve_26 rfl (fun h4 => ?_) (fun h4 => ?_)
    · rw [if_pos h4] at hm
      refine lv_iconst (pc := 41) (v := (0 : Int32)) hx hb d_md_curve_41 (by decide) ?_
      refine lv_istore (pc := 42) (lv' := [(6, .int (0 : Int32)), (0, .ref qm), (1, .int i1), (2, .int i2), (3, .int i3), (4, .int i4), (5, .int i5)]) hx hb d_md_curve_42 hl (Nat.le_of_ble_eq_true rfl) rfl (fun ls hl => ?_)
      refine lv_iload_n (pc := 44) hx hb d_md_curve_44 rfl (lv_at hl 2 rfl) ?_
      refine lv_iload_n (pc := 45) hx hb d_md_curve_45 rfl (lv_at hl 2 rfl) ?_
      refine lv_imul (pc := 46) hx hb d_md_curve_46 ?_
      refine lv_iconst (pc := 47) (v := (4 : Int32)) hx hb d_md_curve_47 (by decide) ?_
      refine lv_iload_n (pc := 48) hx hb d_md_curve_48 rfl (lv_at hl 3 rfl) ?_
      refine lv_imul (pc := 49) hx hb d_md_curve_49 ?_
      refine lv_iadd (pc := 50) hx hb d_md_curve_50 ?_
      refine lv_i2l (pc := 51) hx hb d_md_curve_51 rfl ?_
      refine lv_lstore (pc := 52) (lv' := [(7, .long (((i1 * i1) + ((4 : Int32) * i2)).toInt64)), (6, .int (0 : Int32)), (0, .ref qm), (1, .int i1), (2, .int i2), (3, .int i3), (4, .int i4), (5, .int i5)]) hx hb d_md_curve_52 hl (Nat.le_of_ble_eq_true rfl) rfl (fun ls hl => ?_)
      refine lv_bipush (pc := 54) (v := (16 : Int32)) hx hb d_md_curve_54 (by decide) ?_
      refine lv_iload (pc := 56) hx hb d_md_curve_56 (lv_at hl 6 rfl) ?_
      refine lv_imul (pc := 58) hx hb d_md_curve_58 ?_
      refine lv_bipush (pc := 59) (v := (8 : Int32)) hx hb d_md_curve_59 (by decide) ?_
      refine lv_iload_n (pc := 61) hx hb d_md_curve_61 rfl (lv_at hl 3 rfl) ?_
      refine lv_imul (pc := 62) hx hb d_md_curve_62 ?_
      refine lv_iload_n (pc := 63) hx hb d_md_curve_63 rfl (lv_at hl 5 rfl) ?_
      refine lv_imul (pc := 64) hx hb d_md_curve_64 ?_
      refine lv_iadd (pc := 65) hx hb d_md_curve_65 ?_
      refine lv_i2l (pc := 66) hx hb d_md_curve_66 rfl ?_
      refine lv_lstore (pc := 67) (lv' := [(9, .long ((((16 : Int32) * i4) + (((8 : Int32) * i1) * i3)).toInt64)), (7, .long (((i1 * i1) + ((4 : Int32) * i2)).toInt64)), (6, .int (0 : Int32)), (0, .ref qm), (1, .int i1), (2, .int i2), (3, .int i3), (4, .int i4), (5, .int i5)]) hx hb d_md_curve_67 hl (Nat.le_of_ble_eq_true rfl) rfl (fun ls hl => ?_)
      refine lv_bipush (pc := 69) (v := (16 : Int32)) hx hb d_md_curve_69 (by decide) ?_
      refine lv_iload_n (pc := 71) hx hb d_md_curve_71 rfl (lv_at hl 6 rfl) ?_
      refine lv_imul (pc := 72) hx hb d_md_curve_72 ?_
      refine lv_iload_n (pc := 73) hx hb d_md_curve_73 rfl (lv_at hl 6 rfl) ?_
      refine lv_imul (pc := 74) hx hb d_md_curve_74 ?_
      refine lv_bipush (pc := 75) (v := (64 : Int32)) hx hb d_md_curve_75 (by decide) ?_
      refine lv_iload (pc := 77) hx hb d_md_curve_77 (lv_at hl 8 rfl) ?_
      refine lv_imul (pc := 79) hx hb d_md_curve_79 ?_
      refine lv_iadd (pc := 80) hx hb d_md_curve_80 ?_
      refine lv_i2l (pc := 81) hx hb d_md_curve_81 rfl ?_
      refine lv_lstore (pc := 82) (lv' := [(11, .long (((((16 : Int32) * i3) * i3) + ((64 : Int32) * i5)).toInt64)), (9, .long ((((16 : Int32) * i4) + (((8 : Int32) * i1) * i3)).toInt64)), (7, .long (((i1 * i1) + ((4 : Int32) * i2)).toInt64)), (6, .int (0 : Int32)), (0, .ref qm), (1, .int i1), (2, .int i2), (3, .int i3), (4, .int i4), (5, .int i5)]) hx hb d_md_curve_82 hl (Nat.le_of_ble_eq_true rfl) rfl (fun ls hl => ?_)
      refine lv_aload_n (pc := 84) hx hb d_md_curve_84 rfl (lv_at hl 4 rfl) ?_
      refine lv_iload (pc := 85) hx hb d_md_curve_85 (lv_at hl 3 rfl) ?_
      refine lv_if_ne (pc := 87) (tgt := 94) hx hb d_md_curve_87 rfl (fun h9 => absurd (by decide) h9) (fun _ => ?_)
      refine lv_iconst (pc := 90) (v := (1 : Int32)) hx hb d_md_curve_90 (by decide) ?_
      refine lv_goto (pc := 91) (tgt := 113) hx hb d_md_curve_91 rfl ?_
      refine va_put (pc := 113) (D := D) (ci := 4) (v := .int (1 : Int32)) (ty := .int) (C := "TorsionDeskModel") (T := tX4) (N := 20) hx hb hB lX4 yX4 yX4_ok nX4 hown hK hP hD hS 0 rfl rfl 0 (by decide) (hB _ zw_417) (fun _ h9 => h9) rfl (by decide +kernel) rfl rfl (Nat.le_of_ble_eq_true rfl) d_md_curve_113 (fun H locs hP hD hS => ?_)
      have hP : va_P D vwCl [(qm, .inr (4, [.int (1 : Int32), .int mh, .int ma, .int mc, .long m1, .long m2, .long m3, .long m4, .int mp, .ref qa, .ref qb, .ref qc, .int mz, .int mw, .long mx, .long my, .int mr, .int ml, .int mf, .int ms])), (qa, .inl (cI, 40, .inl pa)), (qb, .inl (cI, 40, .inl pb)), (qc, .inl (cI, 40, .inl po))] H := hP
      have hD : va_D A [(qm, .inr (4, [.int (1 : Int32), .int mh, .int ma, .int mc, .long m1, .long m2, .long m3, .long m4, .int mp, .ref qa, .ref qb, .ref qc, .int mz, .int mw, .long mx, .long my, .int mr, .int ml, .int mf, .int ms])), (qa, .inl (cI, 40, .inl pa)), (qb, .inl (cI, 40, .inl pb)), (qc, .inl (cI, 40, .inl po))] := hD
      refine lv_aload_n (pc := 116) hx hb d_md_curve_116 rfl (lv_at hl 4 rfl) ?_
      refine va_get (pc := 117) (D := D) (ci := 4) (v := .int (1 : Int32)) (C := "TorsionDeskModel") (T := tX4) (N := 20) hx hb hB lX4 hown hK hP 0 rfl rfl 0 (by decide) (hB _ zw_417) (fun _ h9 => h9) rfl d_md_curve_117 ?_
      refine lv_if_le (pc := 120) (tgt := 125) hx hb d_md_curve_120 rfl (fun h9 => absurd h9 (by decide)) (fun _ => ?_)
      refine lv_iconst (pc := 123) (v := (0 : Int32)) hx hb d_md_curve_123 (by decide) ?_
      cases hm
      rw [hQ]
      exact W.iret (pc := 124) hx hb hr (fun t ht _ => ⟨rfl, by rw [ht]; exact hP, hS.F ht⟩) hS.2.2 d_md_curve_124
    rw [if_neg h4] at hm
    refine lv_iload (pc := 29) hx hb d_md_curve_29 (lv_at hl 5 rfl) ?_
    refine zcS (pc := 31) (As := [.int i5]) (rest := []) ⟨hx, hb, hml, hown, hB⟩ (w_a_md_small l D cI cJ i5 _ rfl) (va_cwS 1 hB (zgS zw_486 zw_487 zw_5 zw_488) rfl rfl rfl (by decide +kernel) ⟨by rw [hR]; exact Nat.le_of_ble_eq_true rfl, by rw [hR]; exact Nat.le_of_ble_eq_true rfl⟩) hK (hP.sub (ws' := []) [] rfl) (hD.sub (ws' := []) [] (by decide) rfl) rfl hl.1 rfl (Nat.le_of_ble_eq_true rfl) d_md_curve_31 ⟨Nat.zero_le _, Nat.zero_le _⟩ ?_
    refine lv_if_eq (pc := 34) (tgt := 41) hx hb d_md_curve_34 rfl (fun h5 => ?_) (fun h5 => ?_)
    · rw [if_pos h5] at hm
      refine lv_iconst (pc := 41) (v := (0 : Int32)) hx hb d_md_curve_41 (by decide) ?_
      refine lv_istore (pc := 42) (lv' := [(6, .int (0 : Int32)), (0, .ref qm), (1, .int i1), (2, .int i2), (3, .int i3), (4, .int i4), (5, .int i5)]) hx hb d_md_curve_42 hl (Nat.le_of_ble_eq_true rfl) rfl (fun ls hl => ?_)
      refine lv_iload_n (pc := 44) hx hb d_md_curve_44 rfl (lv_at hl 2 rfl) ?_
      refine lv_iload_n (pc := 45) hx hb d_md_curve_45 rfl (lv_at hl 2 rfl) ?_
      refine lv_imul (pc := 46) hx hb d_md_curve_46 ?_
      refine lv_iconst (pc := 47) (v := (4 : Int32)) hx hb d_md_curve_47 (by decide) ?_
      refine lv_iload_n (pc := 48) hx hb d_md_curve_48 rfl (lv_at hl 3 rfl) ?_
      refine lv_imul (pc := 49) hx hb d_md_curve_49 ?_
      refine lv_iadd (pc := 50) hx hb d_md_curve_50 ?_
      refine lv_i2l (pc := 51) hx hb d_md_curve_51 rfl ?_
      refine lv_lstore (pc := 52) (lv' := [(7, .long (((i1 * i1) + ((4 : Int32) * i2)).toInt64)), (6, .int (0 : Int32)), (0, .ref qm), (1, .int i1), (2, .int i2), (3, .int i3), (4, .int i4), (5, .int i5)]) hx hb d_md_curve_52 hl (Nat.le_of_ble_eq_true rfl) rfl (fun ls hl => ?_)
      refine lv_bipush (pc := 54) (v := (16 : Int32)) hx hb d_md_curve_54 (by decide) ?_
      refine lv_iload (pc := 56) hx hb d_md_curve_56 (lv_at hl 6 rfl) ?_
      refine lv_imul (pc := 58) hx hb d_md_curve_58 ?_
      refine lv_bipush (pc := 59) (v := (8 : Int32)) hx hb d_md_curve_59 (by decide) ?_
      refine lv_iload_n (pc := 61) hx hb d_md_curve_61 rfl (lv_at hl 3 rfl) ?_
      refine lv_imul (pc := 62) hx hb d_md_curve_62 ?_
      refine lv_iload_n (pc := 63) hx hb d_md_curve_63 rfl (lv_at hl 5 rfl) ?_
      refine lv_imul (pc := 64) hx hb d_md_curve_64 ?_
      refine lv_iadd (pc := 65) hx hb d_md_curve_65 ?_
      refine lv_i2l (pc := 66) hx hb d_md_curve_66 rfl ?_
      refine lv_lstore (pc := 67) (lv' := [(9, .long ((((16 : Int32) * i4) + (((8 : Int32) * i1) * i3)).toInt64)), (7, .long (((i1 * i1) + ((4 : Int32) * i2)).toInt64)), (6, .int (0 : Int32)), (0, .ref qm), (1, .int i1), (2, .int i2), (3, .int i3), (4, .int i4), (5, .int i5)]) hx hb d_md_curve_67 hl (Nat.le_of_ble_eq_true rfl) rfl (fun ls hl => ?_)
      refine lv_bipush (pc := 69) (v := (16 : Int32)) hx hb d_md_curve_69 (by decide) ?_
      refine lv_iload_n (pc := 71) hx hb d_md_curve_71 rfl (lv_at hl 6 rfl) ?_
      refine lv_imul (pc := 72) hx hb d_md_curve_72 ?_
      refine lv_iload_n (pc := 73) hx hb d_md_curve_73 rfl (lv_at hl 6 rfl) ?_
      refine lv_imul (pc := 74) hx hb d_md_curve_74 ?_
      refine lv_bipush (pc := 75) (v := (64 : Int32)) hx hb d_md_curve_75 (by decide) ?_
      refine lv_iload (pc := 77) hx hb d_md_curve_77 (lv_at hl 8 rfl) ?_
      refine lv_imul (pc := 79) hx hb d_md_curve_79 ?_
      refine lv_iadd (pc := 80) hx hb d_md_curve_80 ?_
      refine lv_i2l (pc := 81) hx hb d_md_curve_81 rfl ?_
      refine lv_lstore (pc := 82) (lv' := [(11, .long (((((16 : Int32) * i3) * i3) + ((64 : Int32) * i5)).toInt64)), (9, .long ((((16 : Int32) * i4) + (((8 : Int32) * i1) * i3)).toInt64)), (7, .long (((i1 * i1) + ((4 : Int32) * i2)).toInt64)), (6, .int (0 : Int32)), (0, .ref qm), (1, .int i1), (2, .int i2), (3, .int i3), (4, .int i4), (5, .int i5)]) hx hb d_md_curve_82 hl (Nat.le_of_ble_eq_true rfl) rfl (fun ls hl => ?_)
      refine lv_aload_n (pc := 84) hx hb d_md_curve_84 rfl (lv_at hl 4 rfl) ?_
      refine lv_iload (pc := 85) hx hb d_md_curve_85 (lv_at hl 3 rfl) ?_
      refine lv_if_ne (pc := 87) (tgt := 94) hx hb d_md_curve_87 rfl (fun h9 => absurd (by decide) h9) (fun _ => ?_)
      refine lv_iconst (pc := 90) (v := (1 : Int32)) hx hb d_md_curve_90 (by decide) ?_
      refine lv_goto (pc := 91) (tgt := 113) hx hb d_md_curve_91 rfl ?_
      refine va_put (pc := 113) (D := D) (ci := 4) (v := .int (1 : Int32)) (ty := .int) (C := "TorsionDeskModel") (T := tX4) (N := 20) hx hb hB lX4 yX4 yX4_ok nX4 hown hK hP hD hS 0 rfl rfl 0 (by decide) (hB _ zw_417) (fun _ h9 => h9) rfl (by decide +kernel) rfl rfl (Nat.le_of_ble_eq_true rfl) d_md_curve_113 (fun H locs hP hD hS => ?_)
      have hP : va_P D vwCl [(qm, .inr (4, [.int (1 : Int32), .int mh, .int ma, .int mc, .long m1, .long m2, .long m3, .long m4, .int mp, .ref qa, .ref qb, .ref qc, .int mz, .int mw, .long mx, .long my, .int mr, .int ml, .int mf, .int ms])), (qa, .inl (cI, 40, .inl pa)), (qb, .inl (cI, 40, .inl pb)), (qc, .inl (cI, 40, .inl po))] H := hP
      have hD : va_D A [(qm, .inr (4, [.int (1 : Int32), .int mh, .int ma, .int mc, .long m1, .long m2, .long m3, .long m4, .int mp, .ref qa, .ref qb, .ref qc, .int mz, .int mw, .long mx, .long my, .int mr, .int ml, .int mf, .int ms])), (qa, .inl (cI, 40, .inl pa)), (qb, .inl (cI, 40, .inl pb)), (qc, .inl (cI, 40, .inl po))] := hD
      refine lv_aload_n (pc := 116) hx hb d_md_curve_116 rfl (lv_at hl 4 rfl) ?_
      refine va_get (pc := 117) (D := D) (ci := 4) (v := .int (1 : Int32)) (C := "TorsionDeskModel") (T := tX4) (N := 20) hx hb hB lX4 hown hK hP 0 rfl rfl 0 (by decide) (hB _ zw_417) (fun _ h9 => h9) rfl d_md_curve_117 ?_
      refine lv_if_le (pc := 120) (tgt := 125) hx hb d_md_curve_120 rfl (fun h9 => absurd h9 (by decide)) (fun _ => ?_)
      refine lv_iconst (pc := 123) (v := (0 : Int32)) hx hb d_md_curve_123 (by decide) ?_
      cases hm
      rw [hQ]
      exact W.iret (pc := 124) hx hb hr (fun t ht _ => ⟨rfl, by rw [ht]; exact hP, hS.F ht⟩) hS.2.2 d_md_curve_124
    rw [if_neg h5] at hm
    refine lv_iconst (pc := 37) (v := (1 : Int32)) hx hb d_md_curve_37 (by decide) ?_
    refine lv_goto (pc := 38) (tgt := 42) hx hb d_md_curve_38 rfl ?_
    refine lv_istore (pc := 42) (lv' := [(6, .int (1 : Int32)), (0, .ref qm), (1, .int i1), (2, .int i2), (3, .int i3), (4, .int i4), (5, .int i5)]) hx hb d_md_curve_42 hl (Nat.le_of_ble_eq_true rfl) rfl (fun ls hl => ?_)
    refine lv_iload_n (pc := 44) hx hb d_md_curve_44 rfl (lv_at hl 2 rfl) ?_
    refine lv_iload_n (pc := 45) hx hb d_md_curve_45 rfl (lv_at hl 2 rfl) ?_
    refine lv_imul (pc := 46) hx hb d_md_curve_46 ?_
    refine lv_iconst (pc := 47) (v := (4 : Int32)) hx hb d_md_curve_47 (by decide) ?_
    refine lv_iload_n (pc := 48) hx hb d_md_curve_48 rfl (lv_at hl 3 rfl) ?_
    refine lv_imul (pc := 49) hx hb d_md_curve_49 ?_
    refine lv_iadd (pc := 50) hx hb d_md_curve_50 ?_
    refine lv_i2l (pc := 51) hx hb d_md_curve_51 rfl ?_
    refine lv_lstore (pc := 52) (lv' := [(7, .long (((i1 * i1) + ((4 : Int32) * i2)).toInt64)), (6, .int (1 : Int32)), (0, .ref qm), (1, .int i1), (2, .int i2), (3, .int i3), (4, .int i4), (5, .int i5)]) hx hb d_md_curve_52 hl (Nat.le_of_ble_eq_true rfl) rfl (fun ls hl => ?_)
    refine lv_bipush (pc := 54) (v := (16 : Int32)) hx hb d_md_curve_54 (by decide) ?_
    refine lv_iload (pc := 56) hx hb d_md_curve_56 (lv_at hl 6 rfl) ?_
    refine lv_imul (pc := 58) hx hb d_md_curve_58 ?_
    refine lv_bipush (pc := 59) (v := (8 : Int32)) hx hb d_md_curve_59 (by decide) ?_
    refine lv_iload_n (pc := 61) hx hb d_md_curve_61 rfl (lv_at hl 3 rfl) ?_
    refine lv_imul (pc := 62) hx hb d_md_curve_62 ?_
    refine lv_iload_n (pc := 63) hx hb d_md_curve_63 rfl (lv_at hl 5 rfl) ?_
    refine lv_imul (pc := 64) hx hb d_md_curve_64 ?_
    refine lv_iadd (pc := 65) hx hb d_md_curve_65 ?_
    refine lv_i2l (pc := 66) hx hb d_md_curve_66 rfl ?_
    refine lv_lstore (pc := 67) (lv' := [(9, .long ((((16 : Int32) * i4) + (((8 : Int32) * i1) * i3)).toInt64)), (7, .long (((i1 * i1) + ((4 : Int32) * i2)).toInt64)), (6, .int (1 : Int32)), (0, .ref qm), (1, .int i1), (2, .int i2), (3, .int i3), (4, .int i4), (5, .int i5)]) hx hb d_md_curve_67 hl (Nat.le_of_ble_eq_true rfl) rfl (fun ls hl => ?_)
    refine lv_bipush (pc := 69) (v := (16 : Int32)) hx hb d_md_curve_69 (by decide) ?_
    refine lv_iload_n (pc := 71) hx hb d_md_curve_71 rfl (lv_at hl 6 rfl) ?_
    refine lv_imul (pc := 72) hx hb d_md_curve_72 ?_
    refine lv_iload_n (pc := 73) hx hb d_md_curve_73 rfl (lv_at hl 6 rfl) ?_
    refine lv_imul (pc := 74) hx hb d_md_curve_74 ?_
    refine lv_bipush (pc := 75) (v := (64 : Int32)) hx hb d_md_curve_75 (by decide) ?_
    refine lv_iload (pc := 77) hx hb d_md_curve_77 (lv_at hl 8 rfl) ?_
    refine lv_imul (pc := 79) hx hb d_md_curve_79 ?_
    refine lv_iadd (pc := 80) hx hb d_md_curve_80 ?_
    refine lv_i2l (pc := 81) hx hb d_md_curve_81 rfl ?_
    refine lv_lstore (pc := 82) (lv' := [(11, .long (((((16 : Int32) * i3) * i3) + ((64 : Int32) * i5)).toInt64)), (9, .long ((((16 : Int32) * i4) + (((8 : Int32) * i1) * i3)).toInt64)), (7, .long (((i1 * i1) + ((4 : Int32) * i2)).toInt64)), (6, .int (1 : Int32)), (0, .ref qm), (1, .int i1), (2, .int i2), (3, .int i3), (4, .int i4), (5, .int i5)]) hx hb d_md_curve_82 hl (Nat.le_of_ble_eq_true rfl) rfl (fun ls hl => ?_)
    refine lv_aload_n (pc := 84) hx hb d_md_curve_84 rfl (lv_at hl 4 rfl) ?_
    refine lv_iload (pc := 85) hx hb d_md_curve_85 (lv_at hl 3 rfl) ?_
    refine lv_if_ne (pc := 87) (tgt := 94) hx hb d_md_curve_87 rfl (fun _ => ?_) (fun h9 => absurd h9 (by decide))
    refine lv_lload (pc := 94) hx hb d_md_curve_94 (lv_at hl 2 rfl) ?_
    refine lv_lload (pc := 96) hx hb d_md_curve_96 (lv_at hl 1 rfl) ?_
    refine lv_lload (pc := 98) hx hb d_md_curve_98 (lv_at hl 0 rfl) ?_
    refine zcS (pc := 100) (As := [.long (((i1 * i1) + ((4 : Int32) * i2)).toInt64), .long ((((16 : Int32) * i4) + (((8 : Int32) * i1) * i3)).toInt64), .long (((((16 : Int32) * i3) * i3) + ((64 : Int32) * i5)).toInt64)]) (rest := [.ref qm]) ⟨hx, hb, hml, hown, hB⟩ (w_a_md_discriminantOf l D cI cJ (((i1 * i1) + ((4 : Int32) * i2)).toInt64) ((((16 : Int32) * i4) + (((8 : Int32) * i1) * i3)).toInt64) (((((16 : Int32) * i3) * i3) + ((64 : Int32) * i5)).toInt64) _ rfl) (va_cwS 3 hB (zgS zw_489 zw_490 zw_5 zw_491) rfl rfl rfl (by decide +kernel) ⟨by rw [hR]; exact Nat.le_of_ble_eq_true rfl, by rw [hR]; exact Nat.le_of_ble_eq_true rfl⟩) hK (hP.sub (ws' := []) [] rfl) (hD.sub (ws' := []) [] (by decide) rfl) rfl hl.1 rfl (Nat.le_of_ble_eq_true rfl) d_md_curve_100 ⟨Nat.zero_le _, Nat.zero_le _⟩ ?_
    refine lv_lconst (pc := 103) (v := (0 : Int64)) hx hb d_md_curve_103 (by decide) ?_
    refine zl_ne (pc := 104) (tgt := 112) hx hb d_md_curve_104 d_md_curve_105 rfl (fun h6 => ?_) (fun h6 => ?_)
    · rw [if_neg h6] at hm
      refine lv_iconst (pc := 112) (v := (0 : Int32)) hx hb d_md_curve_112 (by decide) ?_
      refine va_put (pc := 113) (D := D) (ci := 4) (v := .int (0 : Int32)) (ty := .int) (C := "TorsionDeskModel") (T := tX4) (N := 20) hx hb hB lX4 yX4 yX4_ok nX4 hown hK hP hD hS 0 rfl rfl 0 (by decide) (hB _ zw_417) (fun _ h9 => h9) rfl (by decide +kernel) rfl rfl (Nat.le_of_ble_eq_true rfl) d_md_curve_113 (fun H locs hP hD hS => ?_)
      have hP : va_P D vwCl [(qm, .inr (4, [.int (0 : Int32), .int mh, .int ma, .int mc, .long m1, .long m2, .long m3, .long m4, .int mp, .ref qa, .ref qb, .ref qc, .int mz, .int mw, .long mx, .long my, .int mr, .int ml, .int mf, .int ms])), (qa, .inl (cI, 40, .inl pa)), (qb, .inl (cI, 40, .inl pb)), (qc, .inl (cI, 40, .inl po))] H := hP
      have hD : va_D A [(qm, .inr (4, [.int (0 : Int32), .int mh, .int ma, .int mc, .long m1, .long m2, .long m3, .long m4, .int mp, .ref qa, .ref qb, .ref qc, .int mz, .int mw, .long mx, .long my, .int mr, .int ml, .int mf, .int ms])), (qa, .inl (cI, 40, .inl pa)), (qb, .inl (cI, 40, .inl pb)), (qc, .inl (cI, 40, .inl po))] := hD
      refine lv_aload_n (pc := 116) hx hb d_md_curve_116 rfl (lv_at hl 4 rfl) ?_
      refine va_get (pc := 117) (D := D) (ci := 4) (v := .int (0 : Int32)) (C := "TorsionDeskModel") (T := tX4) (N := 20) hx hb hB lX4 hown hK hP 0 rfl rfl 0 (by decide) (hB _ zw_417) (fun _ h9 => h9) rfl d_md_curve_117 ?_
      refine lv_if_le (pc := 120) (tgt := 125) hx hb d_md_curve_120 rfl (fun _ => ?_) (fun h9 => absurd (by decide) h9)
      refine lv_aload_n (pc := 125) hx hb d_md_curve_125 rfl (lv_at hl 4 rfl) ?_
      refine lv_iconst (pc := 126) (v := (1 : Int32)) hx hb d_md_curve_126 (by decide) ?_
      refine va_put (pc := 127) (D := D) (ci := 4) (v := .int (1 : Int32)) (ty := .boolean) (C := "TorsionDeskModel") (T := tX4) (N := 20) hx hb hB lX4 yX4 yX4_ok nX4 hown hK hP hD hS 0 rfl rfl 1 (by decide) (hB _ zw_418) (fun _ h9 => h9) rfl (by decide +kernel) rfl rfl (Nat.le_of_ble_eq_true rfl) d_md_curve_127 (fun H locs hP hD hS => ?_)
      have hP : va_P D vwCl [(qm, .inr (4, [.int (0 : Int32), .int (1 : Int32), .int ma, .int mc, .long m1, .long m2, .long m3, .long m4, .int mp, .ref qa, .ref qb, .ref qc, .int mz, .int mw, .long mx, .long my, .int mr, .int ml, .int mf, .int ms])), (qa, .inl (cI, 40, .inl pa)), (qb, .inl (cI, 40, .inl pb)), (qc, .inl (cI, 40, .inl po))] H := hP
      have hD : va_D A [(qm, .inr (4, [.int (0 : Int32), .int (1 : Int32), .int ma, .int mc, .long m1, .long m2, .long m3, .long m4, .int mp, .ref qa, .ref qb, .ref qc, .int mz, .int mw, .long mx, .long my, .int mr, .int ml, .int mf, .int ms])), (qa, .inl (cI, 40, .inl pa)), (qb, .inl (cI, 40, .inl pb)), (qc, .inl (cI, 40, .inl po))] := hD
      refine lv_aload_n (pc := 130) hx hb d_md_curve_130 rfl (lv_at hl 4 rfl) ?_
      refine lv_iload_n (pc := 131) hx hb d_md_curve_131 rfl (lv_at hl 5 rfl) ?_
      refine va_put (pc := 132) (D := D) (ci := 4) (v := .int i1) (ty := .int) (C := "TorsionDeskModel") (T := tX4) (N := 20) hx hb hB lX4 yX4 yX4_ok nX4 hown hK hP hD hS 0 rfl rfl 2 (by decide) (hB _ zw_419) (fun _ h9 => h9) rfl (by decide +kernel) rfl rfl (Nat.le_of_ble_eq_true rfl) d_md_curve_132 (fun H locs hP hD hS => ?_)
      have hP : va_P D vwCl [(qm, .inr (4, [.int (0 : Int32), .int (1 : Int32), .int i1, .int mc, .long m1, .long m2, .long m3, .long m4, .int mp, .ref qa, .ref qb, .ref qc, .int mz, .int mw, .long mx, .long my, .int mr, .int ml, .int mf, .int ms])), (qa, .inl (cI, 40, .inl pa)), (qb, .inl (cI, 40, .inl pb)), (qc, .inl (cI, 40, .inl po))] H := hP
      have hD : va_D A [(qm, .inr (4, [.int (0 : Int32), .int (1 : Int32), .int i1, .int mc, .long m1, .long m2, .long m3, .long m4, .int mp, .ref qa, .ref qb, .ref qc, .int mz, .int mw, .long mx, .long my, .int mr, .int ml, .int mf, .int ms])), (qa, .inl (cI, 40, .inl pa)), (qb, .inl (cI, 40, .inl pb)), (qc, .inl (cI, 40, .inl po))] := hD
      refine lv_aload_n (pc := 135) hx hb d_md_curve_135 rfl (lv_at hl 4 rfl) ?_
      refine lv_iload_n (pc := 136) hx hb d_md_curve_136 rfl (lv_at hl 7 rfl) ?_
      refine va_put (pc := 137) (D := D) (ci := 4) (v := .int i3) (ty := .int) (C := "TorsionDeskModel") (T := tX4) (N := 20) hx hb hB lX4 yX4 yX4_ok nX4 hown hK hP hD hS 0 rfl rfl 3 (by decide) (hB _ zw_420) (fun _ h9 => h9) rfl (by decide +kernel) rfl rfl (Nat.le_of_ble_eq_true rfl) d_md_curve_137 (fun H locs hP hD hS => ?_)
      have hP : va_P D vwCl [(qm, .inr (4, [.int (0 : Int32), .int (1 : Int32), .int i1, .int i3, .long m1, .long m2, .long m3, .long m4, .int mp, .ref qa, .ref qb, .ref qc, .int mz, .int mw, .long mx, .long my, .int mr, .int ml, .int mf, .int ms])), (qa, .inl (cI, 40, .inl pa)), (qb, .inl (cI, 40, .inl pb)), (qc, .inl (cI, 40, .inl po))] H := hP
      have hD : va_D A [(qm, .inr (4, [.int (0 : Int32), .int (1 : Int32), .int i1, .int i3, .long m1, .long m2, .long m3, .long m4, .int mp, .ref qa, .ref qb, .ref qc, .int mz, .int mw, .long mx, .long my, .int mr, .int ml, .int mf, .int ms])), (qa, .inl (cI, 40, .inl pa)), (qb, .inl (cI, 40, .inl pb)), (qc, .inl (cI, 40, .inl po))] := hD
      refine lv_aload_n (pc := 140) hx hb d_md_curve_140 rfl (lv_at hl 4 rfl) ?_
      refine lv_lload (pc := 141) hx hb d_md_curve_141 (lv_at hl 2 rfl) ?_
      refine va_put (pc := 143) (D := D) (ci := 4) (v := .long (((i1 * i1) + ((4 : Int32) * i2)).toInt64)) (ty := .long) (C := "TorsionDeskModel") (T := tX4) (N := 20) hx hb hB lX4 yX4 yX4_ok nX4 hown hK hP hD hS 0 rfl rfl 4 (by decide) (hB _ zw_421) (fun _ h9 => h9) rfl (by decide +kernel) rfl rfl (Nat.le_of_ble_eq_true rfl) d_md_curve_143 (fun H locs hP hD hS => ?_)
      have hP : va_P D vwCl [(qm, .inr (4, [.int (0 : Int32), .int (1 : Int32), .int i1, .int i3, .long (((i1 * i1) + ((4 : Int32) * i2)).toInt64), .long m2, .long m3, .long m4, .int mp, .ref qa, .ref qb, .ref qc, .int mz, .int mw, .long mx, .long my, .int mr, .int ml, .int mf, .int ms])), (qa, .inl (cI, 40, .inl pa)), (qb, .inl (cI, 40, .inl pb)), (qc, .inl (cI, 40, .inl po))] H := hP
      have hD : va_D A [(qm, .inr (4, [.int (0 : Int32), .int (1 : Int32), .int i1, .int i3, .long (((i1 * i1) + ((4 : Int32) * i2)).toInt64), .long m2, .long m3, .long m4, .int mp, .ref qa, .ref qb, .ref qc, .int mz, .int mw, .long mx, .long my, .int mr, .int ml, .int mf, .int ms])), (qa, .inl (cI, 40, .inl pa)), (qb, .inl (cI, 40, .inl pb)), (qc, .inl (cI, 40, .inl po))] := hD
      refine lv_aload_n (pc := 146) hx hb d_md_curve_146 rfl (lv_at hl 4 rfl) ?_
      refine lv_lload (pc := 147) hx hb d_md_curve_147 (lv_at hl 1 rfl) ?_
      refine va_put (pc := 149) (D := D) (ci := 4) (v := .long ((((16 : Int32) * i4) + (((8 : Int32) * i1) * i3)).toInt64)) (ty := .long) (C := "TorsionDeskModel") (T := tX4) (N := 20) hx hb hB lX4 yX4 yX4_ok nX4 hown hK hP hD hS 0 rfl rfl 5 (by decide) (hB _ zw_422) (fun _ h9 => h9) rfl (by decide +kernel) rfl rfl (Nat.le_of_ble_eq_true rfl) d_md_curve_149 (fun H locs hP hD hS => ?_)
      have hP : va_P D vwCl [(qm, .inr (4, [.int (0 : Int32), .int (1 : Int32), .int i1, .int i3, .long (((i1 * i1) + ((4 : Int32) * i2)).toInt64), .long ((((16 : Int32) * i4) + (((8 : Int32) * i1) * i3)).toInt64), .long m3, .long m4, .int mp, .ref qa, .ref qb, .ref qc, .int mz, .int mw, .long mx, .long my, .int mr, .int ml, .int mf, .int ms])), (qa, .inl (cI, 40, .inl pa)), (qb, .inl (cI, 40, .inl pb)), (qc, .inl (cI, 40, .inl po))] H := hP
      have hD : va_D A [(qm, .inr (4, [.int (0 : Int32), .int (1 : Int32), .int i1, .int i3, .long (((i1 * i1) + ((4 : Int32) * i2)).toInt64), .long ((((16 : Int32) * i4) + (((8 : Int32) * i1) * i3)).toInt64), .long m3, .long m4, .int mp, .ref qa, .ref qb, .ref qc, .int mz, .int mw, .long mx, .long my, .int mr, .int ml, .int mf, .int ms])), (qa, .inl (cI, 40, .inl pa)), (qb, .inl (cI, 40, .inl pb)), (qc, .inl (cI, 40, .inl po))] := hD
      refine lv_aload_n (pc := 152) hx hb d_md_curve_152 rfl (lv_at hl 4 rfl) ?_
      refine lv_lload (pc := 153) hx hb d_md_curve_153 (lv_at hl 0 rfl) ?_
      refine va_put (pc := 155) (D := D) (ci := 4) (v := .long (((((16 : Int32) * i3) * i3) + ((64 : Int32) * i5)).toInt64)) (ty := .long) (C := "TorsionDeskModel") (T := tX4) (N := 20) hx hb hB lX4 yX4 yX4_ok nX4 hown hK hP hD hS 0 rfl rfl 6 (by decide) (hB _ zw_423) (fun _ h9 => h9) rfl (by decide +kernel) rfl rfl (Nat.le_of_ble_eq_true rfl) d_md_curve_155 (fun H locs hP hD hS => ?_)
      have hP : va_P D vwCl [(qm, .inr (4, [.int (0 : Int32), .int (1 : Int32), .int i1, .int i3, .long (((i1 * i1) + ((4 : Int32) * i2)).toInt64), .long ((((16 : Int32) * i4) + (((8 : Int32) * i1) * i3)).toInt64), .long (((((16 : Int32) * i3) * i3) + ((64 : Int32) * i5)).toInt64), .long m4, .int mp, .ref qa, .ref qb, .ref qc, .int mz, .int mw, .long mx, .long my, .int mr, .int ml, .int mf, .int ms])), (qa, .inl (cI, 40, .inl pa)), (qb, .inl (cI, 40, .inl pb)), (qc, .inl (cI, 40, .inl po))] H := hP
      have hD : va_D A [(qm, .inr (4, [.int (0 : Int32), .int (1 : Int32), .int i1, .int i3, .long (((i1 * i1) + ((4 : Int32) * i2)).toInt64), .long ((((16 : Int32) * i4) + (((8 : Int32) * i1) * i3)).toInt64), .long (((((16 : Int32) * i3) * i3) + ((64 : Int32) * i5)).toInt64), .long m4, .int mp, .ref qa, .ref qb, .ref qc, .int mz, .int mw, .long mx, .long my, .int mr, .int ml, .int mf, .int ms])), (qa, .inl (cI, 40, .inl pa)), (qb, .inl (cI, 40, .inl pb)), (qc, .inl (cI, 40, .inl po))] := hD
      refine lv_aload_n (pc := 158) hx hb d_md_curve_158 rfl (lv_at hl 4 rfl) ?_
      refine lv_aload_n (pc := 159) hx hb d_md_curve_159 rfl (lv_at hl 4 rfl) ?_
      refine va_get (pc := 160) (D := D) (ci := 4) (v := .long (((i1 * i1) + ((4 : Int32) * i2)).toInt64)) (C := "TorsionDeskModel") (T := tX4) (N := 20) hx hb hB lX4 hown hK hP 0 rfl rfl 4 (by decide) (hB _ zw_421) (fun _ h9 => h9) rfl d_md_curve_160 ?_
      refine lv_aload_n (pc := 163) hx hb d_md_curve_163 rfl (lv_at hl 4 rfl) ?_
      refine va_get (pc := 164) (D := D) (ci := 4) (v := .long ((((16 : Int32) * i4) + (((8 : Int32) * i1) * i3)).toInt64)) (C := "TorsionDeskModel") (T := tX4) (N := 20) hx hb hB lX4 hown hK hP 0 rfl rfl 5 (by decide) (hB _ zw_422) (fun _ h9 => h9) rfl d_md_curve_164 ?_
      refine lv_aload_n (pc := 167) hx hb d_md_curve_167 rfl (lv_at hl 4 rfl) ?_
      refine va_get (pc := 168) (D := D) (ci := 4) (v := .long (((((16 : Int32) * i3) * i3) + ((64 : Int32) * i5)).toInt64)) (C := "TorsionDeskModel") (T := tX4) (N := 20) hx hb hB lX4 hown hK hP 0 rfl rfl 6 (by decide) (hB _ zw_423) (fun _ h9 => h9) rfl d_md_curve_168 ?_
      refine zcS (pc := 171) (As := [.long (((i1 * i1) + ((4 : Int32) * i2)).toInt64), .long ((((16 : Int32) * i4) + (((8 : Int32) * i1) * i3)).toInt64), .long (((((16 : Int32) * i3) * i3) + ((64 : Int32) * i5)).toInt64)]) (rest := [.ref qm]) ⟨hx, hb, hml, hown, hB⟩ (w_a_md_discriminantOf l D cI cJ (((i1 * i1) + ((4 : Int32) * i2)).toInt64) ((((16 : Int32) * i4) + (((8 : Int32) * i1) * i3)).toInt64) (((((16 : Int32) * i3) * i3) + ((64 : Int32) * i5)).toInt64) _ rfl) (va_cwS 3 hB (zgS zw_489 zw_490 zw_5 zw_491) rfl rfl rfl (by decide +kernel) ⟨by rw [hR]; exact Nat.le_of_ble_eq_true rfl, by rw [hR]; exact Nat.le_of_ble_eq_true rfl⟩) hK (hP.sub (ws' := []) [] rfl) (hD.sub (ws' := []) [] (by decide) rfl) rfl hl.1 rfl (Nat.le_of_ble_eq_true rfl) d_md_curve_171 ⟨Nat.zero_le _, Nat.zero_le _⟩ ?_
      refine va_put (pc := 174) (D := D) (ci := 4) (v := .long (a_md_discriminantOf (((i1 * i1) + ((4 : Int32) * i2)).toInt64) ((((16 : Int32) * i4) + (((8 : Int32) * i1) * i3)).toInt64) (((((16 : Int32) * i3) * i3) + ((64 : Int32) * i5)).toInt64))) (ty := .long) (C := "TorsionDeskModel") (T := tX4) (N := 20) hx hb hB lX4 yX4 yX4_ok nX4 hown hK hP hD hS 0 rfl rfl 7 (by decide) (hB _ zw_424) (fun _ h9 => h9) rfl (by decide +kernel) rfl rfl (Nat.le_of_ble_eq_true rfl) d_md_curve_174 (fun H locs hP hD hS => ?_)
      have hP : va_P D vwCl [(qm, .inr (4, [.int (0 : Int32), .int (1 : Int32), .int i1, .int i3, .long (((i1 * i1) + ((4 : Int32) * i2)).toInt64), .long ((((16 : Int32) * i4) + (((8 : Int32) * i1) * i3)).toInt64), .long (((((16 : Int32) * i3) * i3) + ((64 : Int32) * i5)).toInt64), .long (a_md_discriminantOf (((i1 * i1) + ((4 : Int32) * i2)).toInt64) ((((16 : Int32) * i4) + (((8 : Int32) * i1) * i3)).toInt64) (((((16 : Int32) * i3) * i3) + ((64 : Int32) * i5)).toInt64)), .int mp, .ref qa, .ref qb, .ref qc, .int mz, .int mw, .long mx, .long my, .int mr, .int ml, .int mf, .int ms])), (qa, .inl (cI, 40, .inl pa)), (qb, .inl (cI, 40, .inl pb)), (qc, .inl (cI, 40, .inl po))] H := hP
      have hD : va_D A [(qm, .inr (4, [.int (0 : Int32), .int (1 : Int32), .int i1, .int i3, .long (((i1 * i1) + ((4 : Int32) * i2)).toInt64), .long ((((16 : Int32) * i4) + (((8 : Int32) * i1) * i3)).toInt64), .long (((((16 : Int32) * i3) * i3) + ((64 : Int32) * i5)).toInt64), .long (a_md_discriminantOf (((i1 * i1) + ((4 : Int32) * i2)).toInt64) ((((16 : Int32) * i4) + (((8 : Int32) * i1) * i3)).toInt64) (((((16 : Int32) * i3) * i3) + ((64 : Int32) * i5)).toInt64)), .int mp, .ref qa, .ref qb, .ref qc, .int mz, .int mw, .long mx, .long my, .int mr, .int ml, .int mf, .int ms])), (qa, .inl (cI, 40, .inl pa)), (qb, .inl (cI, 40, .inl pb)), (qc, .inl (cI, 40, .inl po))] := hD
      refine lv_aload_n (pc := 177) hx hb d_md_curve_177 rfl (lv_at hl 4 rfl) ?_
      refine lv_iconst (pc := 178) (v := (1 : Int32)) hx hb d_md_curve_178 (by decide) ?_
      refine va_put (pc := 179) (D := D) (ci := 4) (v := .int (1 : Int32)) (ty := .int) (C := "TorsionDeskModel") (T := tX4) (N := 20) hx hb hB lX4 yX4 yX4_ok nX4 hown hK hP hD hS 0 rfl rfl 8 (by decide) (hB _ zw_425) (fun _ h9 => h9) rfl (by decide +kernel) rfl rfl (Nat.le_of_ble_eq_true rfl) d_md_curve_179 (fun H locs hP hD hS => ?_)
      have hP : va_P D vwCl [(qm, .inr (4, [.int (0 : Int32), .int (1 : Int32), .int i1, .int i3, .long (((i1 * i1) + ((4 : Int32) * i2)).toInt64), .long ((((16 : Int32) * i4) + (((8 : Int32) * i1) * i3)).toInt64), .long (((((16 : Int32) * i3) * i3) + ((64 : Int32) * i5)).toInt64), .long (a_md_discriminantOf (((i1 * i1) + ((4 : Int32) * i2)).toInt64) ((((16 : Int32) * i4) + (((8 : Int32) * i1) * i3)).toInt64) (((((16 : Int32) * i3) * i3) + ((64 : Int32) * i5)).toInt64)), .int (1 : Int32), .ref qa, .ref qb, .ref qc, .int mz, .int mw, .long mx, .long my, .int mr, .int ml, .int mf, .int ms])), (qa, .inl (cI, 40, .inl pa)), (qb, .inl (cI, 40, .inl pb)), (qc, .inl (cI, 40, .inl po))] H := hP
      have hD : va_D A [(qm, .inr (4, [.int (0 : Int32), .int (1 : Int32), .int i1, .int i3, .long (((i1 * i1) + ((4 : Int32) * i2)).toInt64), .long ((((16 : Int32) * i4) + (((8 : Int32) * i1) * i3)).toInt64), .long (((((16 : Int32) * i3) * i3) + ((64 : Int32) * i5)).toInt64), .long (a_md_discriminantOf (((i1 * i1) + ((4 : Int32) * i2)).toInt64) ((((16 : Int32) * i4) + (((8 : Int32) * i1) * i3)).toInt64) (((((16 : Int32) * i3) * i3) + ((64 : Int32) * i5)).toInt64)), .int (1 : Int32), .ref qa, .ref qb, .ref qc, .int mz, .int mw, .long mx, .long my, .int mr, .int ml, .int mf, .int ms])), (qa, .inl (cI, 40, .inl pa)), (qb, .inl (cI, 40, .inl pb)), (qc, .inl (cI, 40, .inl po))] := hD
      refine lv_aload_n (pc := 182) hx hb d_md_curve_182 rfl (lv_at hl 4 rfl) ?_
      refine va_get (pc := 183) (D := D) (ci := 4) (v := .ref qc) (C := "TorsionDeskModel") (T := tX4) (N := 20) hx hb hB lX4 hown hK hP 0 rfl rfl 11 (by decide) (hB _ zw_428) (fun _ h9 => h9) rfl d_md_curve_183 ?_
      refine lv_iconst (pc := 186) (v := (0 : Int32)) hx hb d_md_curve_186 (by decide) ?_
      refine lv_iconst (pc := 187) (v := (1 : Int32)) hx hb d_md_curve_187 (by decide) ?_
      refine va_iast (pc := 188) hx hb hK hP hD hS 3 0 rfl rfl (by unfold vp_in; decide) d_md_curve_188 (fun H locs hP hD hS => ?_)
      have hP : va_P D vwCl [(qm, .inr (4, [.int (0 : Int32), .int (1 : Int32), .int i1, .int i3, .long (((i1 * i1) + ((4 : Int32) * i2)).toInt64), .long ((((16 : Int32) * i4) + (((8 : Int32) * i1) * i3)).toInt64), .long (((((16 : Int32) * i3) * i3) + ((64 : Int32) * i5)).toInt64), .long (a_md_discriminantOf (((i1 * i1) + ((4 : Int32) * i2)).toInt64) ((((16 : Int32) * i4) + (((8 : Int32) * i1) * i3)).toInt64) (((((16 : Int32) * i3) * i3) + ((64 : Int32) * i5)).toInt64)), .int (1 : Int32), .ref qa, .ref qb, .ref qc, .int mz, .int mw, .long mx, .long my, .int mr, .int ml, .int mf, .int ms])), (qa, .inl (cI, 40, .inl pa)), (qb, .inl (cI, 40, .inl pb)), (qc, .inl (cI, 40, .inl (upd po (0 : Int32).toNatClampNeg (1 : Int32))))] H := hP
      have hD : va_D A [(qm, .inr (4, [.int (0 : Int32), .int (1 : Int32), .int i1, .int i3, .long (((i1 * i1) + ((4 : Int32) * i2)).toInt64), .long ((((16 : Int32) * i4) + (((8 : Int32) * i1) * i3)).toInt64), .long (((((16 : Int32) * i3) * i3) + ((64 : Int32) * i5)).toInt64), .long (a_md_discriminantOf (((i1 * i1) + ((4 : Int32) * i2)).toInt64) ((((16 : Int32) * i4) + (((8 : Int32) * i1) * i3)).toInt64) (((((16 : Int32) * i3) * i3) + ((64 : Int32) * i5)).toInt64)), .int (1 : Int32), .ref qa, .ref qb, .ref qc, .int mz, .int mw, .long mx, .long my, .int mr, .int ml, .int mf, .int ms])), (qa, .inl (cI, 40, .inl pa)), (qb, .inl (cI, 40, .inl pb)), (qc, .inl (cI, 40, .inl (upd po (0 : Int32).toNatClampNeg (1 : Int32))))] := hD
      refine lv_bipush (pc := 189) (v := (-120 : Int32)) hx hb d_md_curve_189 (by decide) ?_
      refine lv_istore (pc := 191) (lv' := [(13, .int (-120 : Int32)), (11, .long (((((16 : Int32) * i3) * i3) + ((64 : Int32) * i5)).toInt64)), (9, .long ((((16 : Int32) * i4) + (((8 : Int32) * i1) * i3)).toInt64)), (7, .long (((i1 * i1) + ((4 : Int32) * i2)).toInt64)), (6, .int (1 : Int32)), (0, .ref qm), (1, .int i1), (2, .int i2), (3, .int i3), (4, .int i4), (5, .int i5)]) hx hb d_md_curve_191 hl (Nat.le_of_ble_eq_true rfl) rfl (fun ls hl => ?_)
      exact k193 N (-120 : Int32) pa pb (upd po (0 : Int32).toNatClampNeg (1 : Int32)) (1 : Int32) mz mw mx my H locs ls (lv_sub hl [5, 0] rfl) hP hD hS hm
    rw [if_pos h6] at hm
    refine lv_iconst (pc := 108) (v := (2 : Int32)) hx hb d_md_curve_108 (by decide) ?_
    refine lv_goto (pc := 109) (tgt := 113) hx hb d_md_curve_109 rfl ?_
    refine va_put (pc := 113) (D := D) (ci := 4) (v := .int (2 : Int32)) (ty := .int) (C := "TorsionDeskModel") (T := tX4) (N := 20) hx hb hB lX4 yX4 yX4_ok nX4 hown hK hP hD hS 0 rfl rfl 0 (by decide) (hB _ zw_417) (fun _ h9 => h9) rfl (by decide +kernel) rfl rfl (Nat.le_of_ble_eq_true rfl) d_md_curve_113 (fun H locs hP hD hS => ?_)
    have hP : va_P D vwCl [(qm, .inr (4, [.int (2 : Int32), .int mh, .int ma, .int mc, .long m1, .long m2, .long m3, .long m4, .int mp, .ref qa, .ref qb, .ref qc, .int mz, .int mw, .long mx, .long my, .int mr, .int ml, .int mf, .int ms])), (qa, .inl (cI, 40, .inl pa)), (qb, .inl (cI, 40, .inl pb)), (qc, .inl (cI, 40, .inl po))] H := hP
    have hD : va_D A [(qm, .inr (4, [.int (2 : Int32), .int mh, .int ma, .int mc, .long m1, .long m2, .long m3, .long m4, .int mp, .ref qa, .ref qb, .ref qc, .int mz, .int mw, .long mx, .long my, .int mr, .int ml, .int mf, .int ms])), (qa, .inl (cI, 40, .inl pa)), (qb, .inl (cI, 40, .inl pb)), (qc, .inl (cI, 40, .inl po))] := hD
    refine lv_aload_n (pc := 116) hx hb d_md_curve_116 rfl (lv_at hl 4 rfl) ?_
    refine va_get (pc := 117) (D := D) (ci := 4) (v := .int (2 : Int32)) (C := "TorsionDeskModel") (T := tX4) (N := 20) hx hb hB lX4 hown hK hP 0 rfl rfl 0 (by decide) (hB _ zw_417) (fun _ h9 => h9) rfl d_md_curve_117 ?_
    refine lv_if_le (pc := 120) (tgt := 125) hx hb d_md_curve_120 rfl (fun h9 => absurd h9 (by decide)) (fun _ => ?_)
    refine lv_iconst (pc := 123) (v := (0 : Int32)) hx hb d_md_curve_123 (by decide) ?_
    cases hm
    rw [hQ]
    exact W.iret (pc := 124) hx hb hr (fun t ht _ => ⟨rfl, by rw [ht]; exact hP, hS.F ht⟩) hS.2.2 d_md_curve_124
  exact main s.heap [] hP hD hS
