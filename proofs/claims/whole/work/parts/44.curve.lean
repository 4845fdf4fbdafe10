/-! a new curve, on both sides -/
theorem zkc1 : zk_curve (.inr "java/lang/IllegalArgumentException") = 1 := by
  show (if "java/lang/IllegalArgumentException" = "java/lang/IllegalArgumentException" then (1 : Int32) else if "java/lang/IllegalArgumentException" = "java/lang/ArithmeticException" then 2 else 9) = 1
  rw [if_pos rfl]
theorem zkc2 : zk_curve (.inr "java/lang/ArithmeticException") = 2 := by
  show (if "java/lang/ArithmeticException" = "java/lang/IllegalArgumentException" then (1 : Int32) else if "java/lang/ArithmeticException" = "java/lang/ArithmeticException" then 2 else 9) = 2
  rw [if_neg (by decide), if_pos rfl]
theorem co_i {i : Int32} (h : ¬ a_td_isCoefficient i = 0) : ∃ v : Int, (-6 ≤ v ∧ v ≤ 6) ∧ i = zI v := by
  obtain ⟨v1, v2⟩ := zI_rng i
  have ev := zI_of i
  generalize i.toInt = v at v1 v2 ev
  subst ev
  unfold a_td_isCoefficient at h
  have e1 : zI v < (-6 : Int32) ↔ v < -6 := by rw [show (-6 : Int32) = zI (-6) from rfl]; exact zI_lt v1 v2 (by omega) (by omega)
  have e2 : (6 : Int32) < zI v ↔ 6 < v := by rw [show (6 : Int32) = zI 6 from rfl]; exact zI_lt (by omega) (by omega) v1 v2
  by_cases h1 : v < -6
  · rw [if_pos (e1.mpr h1)] at h
    exact absurd rfl h
  · by_cases h2 : 6 < v
    · rw [if_neg (fun q => h1 (e1.mp q)), if_pos (e2.mpr h2)] at h
      exact absurd rfl h
    · exact ⟨v, by omega, rfl⟩
theorem k_cls {N : Nat} {dr xs ys os dr' xs' ys' os' : Nat → Int32} {i1 i2 i3 i4 i5 dn fn : Int32} {dq : Int64} {A B C : Int} (s1 : ¬ a_td_isCoefficient i1 = 0) (s2 : ¬ a_td_isCoefficient i2 = 0) (s3 : ¬ a_td_isCoefficient i3 = 0) (s4 : ¬ a_td_isCoefficient i4 = 0) (s5 : ¬ a_td_isCoefficient i5 = 0) (eA : ((i1 * i1) + ((4 : Int32) * i2)).toInt64 = zJ A) (eB : (((16 : Int32) * i4) + (((8 : Int32) * i1) * i3)).toInt64 = zJ B) (eC : ((((16 : Int32) * i3) * i3) + ((64 : Int32) * i5)).toInt64 = zJ C) (hz : ¬ zJ (qD A B C) = 0) (hl : a_sd_listFor N dr (zJ (qD A B C)) = some (dr', dn, dq)) (hs : a_fp_search N xs ys os (zJ A) (zJ B) (zJ C) dn dq dr' = some (xs', ys', os', fn)) : a_td_curve N dr xs ys os i1 i2 i3 i4 i5 = some (.inl (fn, dr', xs', ys', os', 1, i1, i3, zJ A, zJ B, zJ C, zJ (qD A B C), dn, dq, fn)) := by
  unfold a_td_curve
  rw [if_neg s1, if_neg s2, if_neg s3, if_neg s4, if_neg s5, eA, eB, eC, c_disc, if_neg hz]
  unfold a_cu_become
  rw [c_disc]
  simp only [ob, hl, hs]
theorem k_end {n : Nat} {pa pb po : Nat → Int32} {i1 i2 i3 i4 i5 fp mz mw z1 z2 z5 z6 z7 z8 : Int32} {mx my z3 z4 : Int64} {A B C : Int} (eA : ((i1 * i1) + ((4 : Int32) * i2)).toInt64 = zJ A) (eB : (((16 : Int32) * i4) + (((8 : Int32) * i1) * i3)).toInt64 = zJ B) (eC : ((((16 : Int32) * i3) * i3) + ((64 : Int32) * i5)).toInt64 = zJ C) (hs : a_md_structure_x n fp mz mw (zJ A) (zJ B) mx my pa pb po = some (z1, z2, z3, z4, z5, z6, z7, z8)) : a_md_curve_L193 i1 i2 i3 i4 i5 (n + 1) (zI 1501) pa pb po fp mz mw mx my = some (fp, pa, pb, po, 0, 1, i1, i3, zJ A, zJ B, zJ C, zJ (qD A B C), fp, z1, z2, z3, z4, z5, z6, z7, z8) := by
  rw [a_md_curve_L193, if_pos (by decide), eA, eB, eC, r_disc, hs]
  rfl
theorem e_curve (hen : zEn) {N : Nat} (hN : 80000 ≤ N) (dr xs ys os pa pb po : Nat → Int32) (mh ma mc mp mz mw mr ml mf ms : Int32) (m1 m2 m3 m4 mx my : Int64) (i1 i2 i3 i4 i5 : Int32) : (∃ e, a_td_curve N dr xs ys os i1 i2 i3 i4 i5 = some (.inr e) ∧ a_md_curve N mh ma mc mp mz mw mr ml mf ms m1 m2 m3 m4 mx my pa pb po i1 i2 i3 i4 i5 = some (0, pa, pb, po, zk_curve (.inr e), mh, ma, mc, m1, m2, m3, m4, mp, mz, mw, mx, my, mr, ml, mf, ms) ∧ zk_curve (.inr e) ≠ 0) ∨ ∃ (dr' xs' ys' os' pa' pb' po' : Nat → Int32) (a c A B C : Int) (t M : Nat) (K : List (Int × Int)) (O : List Nat) (mz' mw' : Int32) (mx' my' : Int64) (dq : Int64), zCv dr' xs' ys' os' pa' pb' po' a c A B C t M K O ∧ a_td_curve N dr xs ys os i1 i2 i3 i4 i5 = some (.inl (zI ((K.length + 1 : Nat) : Int), dr', xs', ys', os', 1, zI a, zI c, zJ A, zJ B, zJ C, zJ (qD A B C), zI ((dvs t 1 M).length : Int), dq, zI ((K.length + 1 : Nat) : Int))) ∧ a_md_curve N mh ma mc mp mz mw mr ml mf ms m1 m2 m3 m4 mx my pa pb po i1 i2 i3 i4 i5 = some (zI ((K.length + 1 : Nat) : Int), pa', pb', po', 0, 1, zI a, zI c, zJ A, zJ B, zJ C, zJ (qD A B C), zI ((K.length + 1 : Nat) : Int), mz', mw', mx', my', zI (qR O : Int), zI (qC O : Int), zI (qP (qsm A B K) O : Int), zI (qQ O : Int)) := by
  by_cases s1 : a_td_isCoefficient i1 = 0
  · exact Or.inl ⟨"java/lang/IllegalArgumentException", by unfold a_td_curve; rw [if_pos s1], by unfold a_md_curve; rw [if_pos (show a_md_small i1 = 0 from s1), zkc1], by rw [zkc1]; decide⟩
  by_cases s2 : a_td_isCoefficient i2 = 0
  · exact Or.inl ⟨"java/lang/IllegalArgumentException", by unfold a_td_curve; rw [if_neg s1, if_pos s2], by unfold a_md_curve; rw [if_neg (show ¬ a_md_small i1 = 0 from s1), if_pos (show a_md_small i2 = 0 from s2), zkc1], by rw [zkc1]; decide⟩
  by_cases s3 : a_td_isCoefficient i3 = 0
  · exact Or.inl ⟨"java/lang/IllegalArgumentException", by unfold a_td_curve; rw [if_neg s1, if_neg s2, if_pos s3], by unfold a_md_curve; rw [if_neg (show ¬ a_md_small i1 = 0 from s1), if_neg (show ¬ a_md_small i2 = 0 from s2), if_pos (show a_md_small i3 = 0 from s3), zkc1], by rw [zkc1]; decide⟩
  by_cases s4 : a_td_isCoefficient i4 = 0
  · exact Or.inl ⟨"java/lang/IllegalArgumentException", by unfold a_td_curve; rw [if_neg s1, if_neg s2, if_neg s3, if_pos s4], by unfold a_md_curve; rw [if_neg (show ¬ a_md_small i1 = 0 from s1), if_neg (show ¬ a_md_small i2 = 0 from s2), if_neg (show ¬ a_md_small i3 = 0 from s3), if_pos (show a_md_small i4 = 0 from s4), zkc1], by rw [zkc1]; decide⟩
  by_cases s5 : a_td_isCoefficient i5 = 0
  · exact Or.inl ⟨"java/lang/IllegalArgumentException", by unfold a_td_curve; rw [if_neg s1, if_neg s2, if_neg s3, if_neg s4, if_pos s5], by unfold a_md_curve; rw [if_neg (show ¬ a_md_small i1 = 0 from s1), if_neg (show ¬ a_md_small i2 = 0 from s2), if_neg (show ¬ a_md_small i3 = 0 from s3), if_neg (show ¬ a_md_small i4 = 0 from s4), if_pos (show a_md_small i5 = 0 from s5), zkc1], by rw [zkc1]; decide⟩
  obtain ⟨a, ha, e1⟩ := co_i s1
  obtain ⟨b, hb, e2⟩ := co_i s2
  obtain ⟨c, hc, e3⟩ := co_i s3
  obtain ⟨d, hd, e4⟩ := co_i s4
  obtain ⟨e, he, e5⟩ := co_i s5
  obtain ⟨hR, hone⟩ := q_all' hen (p := a.natAbs) (q := c.natAbs) (s := a * a) (r := c * c) (w := a * c) (b := b) (d := d) (e := e) (by omega) (by omega) Int.natAbs_mul_self Int.natAbs_mul_self (Int.natAbs_mul a c) hb hd he
  have hR2 := hR
  obtain ⟨r1, r2, r3, r4, r5, r6⟩ := hR2
  have eA : ((i1 * i1) + ((4 : Int32) * i2)).toInt64 = zJ (a * a + 4 * b) := by
    rw [e1, e2, show (4 : Int32) = zI 4 from rfl, zI_mul, zI_mul, zI_add, zI_long (by omega) (by omega)]
  have eB : (((16 : Int32) * i4) + (((8 : Int32) * i1) * i3)).toInt64 = zJ (16 * d + 8 * (a * c)) := by
    rw [e1, e3, e4, show (16 : Int32) = zI 16 from rfl, show (8 : Int32) = zI 8 from rfl, zI_mul, zI_mul, zI_mul, zI_add, Int.mul_assoc, zI_long (by omega) (by omega)]
  have eC : ((((16 : Int32) * i3) * i3) + ((64 : Int32) * i5)).toInt64 = zJ (16 * (c * c) + 64 * e) := by
    rw [e3, e5, show (16 : Int32) = zI 16 from rfl, show (64 : Int32) = zI 64 from rfl, zI_mul, zI_mul, zI_mul, zI_add, Int.mul_assoc, zI_long (by omega) (by omega)]
  generalize a * a + 4 * b = A at hR hone eA r1 r2
  generalize 16 * d + 8 * (a * c) = B at hR hone eB r3 r4
  generalize 16 * (c * c) + 64 * e = C at hR hone eC r5 r6
  have hD : (qD A B C).natAbs ≤ 892366848 := by
    by_cases h0 : qD A B C = 0
    · rw [h0]; decide
    · exact (qone_i hR hone h0).1
  have ez : zJ (qD A B C) = 0 ↔ qD A B C = 0 := by rw [show (0 : Int64) = zJ 0 from rfl]; exact zJ_eq (by omega) (by omega) (by omega) (by omega)
  by_cases h0 : qD A B C = 0
  · refine Or.inl ⟨"java/lang/ArithmeticException", ?_, ?_, by rw [zkc2]; decide⟩
    · unfold a_td_curve
      rw [if_neg s1, if_neg s2, if_neg s3, if_neg s4, if_neg s5, eA, eB, eC, c_disc, if_pos (ez.mpr h0)]
    · unfold a_md_curve
      rw [if_neg (show ¬ a_md_small i1 = 0 from s1), if_neg (show ¬ a_md_small i2 = 0 from s2), if_neg (show ¬ a_md_small i3 = 0 from s3), if_neg (show ¬ a_md_small i4 = 0 from s4), if_neg (show ¬ a_md_small i5 = 0 from s5), eA, eB, eC, r_disc, if_pos (ez.mpr h0), zkc2]
  · refine Or.inr ?_
    obtain ⟨t, -, -, -, hs, ht0, htt, ht, hct, hll, ho, h9, hg, hq⟩ := q_fx hR hone h0
    obtain ⟨M, hMe⟩ : ∃ M, M = qroot (qD A B C).natAbs := ⟨_, rfl⟩
    have hM : isq (qD A B C).natAbs M := by rw [hMe]; exact qroot_ok (by omega)
    have hM2 := isq_b hM hD
    have htM : t ≤ M := by
      have h1 := Nat.le_of_dvd (by omega) ((hs t).mpr (Nat.dvd_refl t))
      have h2 := hM.2
      by_cases q : t ≤ M
      · exact q
      · have := sq_b (show M + 1 ≤ t by omega)
        omega
    obtain ⟨dr', l1, l2, l3⟩ := c_list (D := qD A B C) (dr := dr) (N := N) (M := M) rfl (by omega) hD hs ht hct htM (by omega) (by omega)
    obtain ⟨xs', ys', os', q1, -, -, q2⟩ := c_sea (N := N) (xs := xs) (ys := ys) (os := os) hR ht0 htt ht htM l2 l3 (by omega) ho (by omega)
    have hraw : raw t A B C = pats t A B C (-120) 1621 := rfl
    have hr0 : rAr [] [] pa pb (upd po (0 : Int32).toNatClampNeg (1 : Int32)) := ⟨fun i hi => absurd hi (Nat.not_lt_zero _), fun i hi => by
      have hi : i = 0 := by
        rw [List.length_singleton] at hi
        omega
      rw [hi]
      rfl, rfl⟩
    obtain ⟨n', pa', pb', po', mz', mw', mx', my', g1, g2, g3⟩ := r_cur hR eA eB eC hD hs ht0 ht 1621 N (-120) [] [] pa pb (upd po (0 : Int32).toNatClampNeg (1 : Int32)) mz mw mx my (by omega) (by omega) (by omega) hr0 (by rw [← hraw, List.length_nil]; omega) (by rw [← hraw]; exact h9)
    rw [← hraw, List.nil_append] at g2
    rw [← hraw, List.nil_append, List.nil_append] at g3
    generalize qkp A B (raw t A B C) = K at hg hq q1 q2 g2 g3
    generalize qko A B (raw t A B C) = O' at hg hq q1 q2 g2 g3
    have hst : qSt K (1 :: O') pa' pb' po' := ⟨g3.1, g3.2.1⟩
    obtain ⟨n'', rfl⟩ : ∃ k, n' = k + 1 := ⟨n' - 1, by omega⟩
    obtain ⟨z1, z2, z3, z4, g4⟩ := r_str hg hst hq (N := n'') (by omega) mz' mw' mx' my'
    have g5 := k_end (pa := pa') (pb := pb') (po := po') eA eB eC g4
    refine ⟨dr', xs', ys', os', pa', pb', po', a, c, A, B, C, t, M, K, 1 :: O', z1, z2, z3, z4, zJ ((t * t : Nat) : Int), ⟨ha, hc, hR, h0, hD, hs, hM, htM, ht0, ht, l3, l2, hg, hq, q2, hst⟩, ?_, ?_⟩
    · rw [k_cls s1 s2 s3 s4 s5 eA eB eC (fun q => h0 (ez.mp q)) l1 q1, e1, e3]
    · unfold a_md_curve
      rw [if_neg (show ¬ a_md_small i1 = 0 from s1), if_neg (show ¬ a_md_small i2 = 0 from s2), if_neg (show ¬ a_md_small i3 = 0 from s3), if_neg (show ¬ a_md_small i4 = 0 from s4), if_neg (show ¬ a_md_small i5 = 0 from s5), if_neg (by rw [eA, eB, eC, r_disc]; exact fun q => h0 (ez.mp q))]
      have g2 : a_md_curve_L193 i1 i2 i3 i4 i5 N (-120) pa pb (upd po (0 : Int32).toNatClampNeg (1 : Int32)) 1 mz mw mx my = a_md_curve_L193 i1 i2 i3 i4 i5 (n'' + 1) (zI 1501) pa' pb' po' (zI ((K.length + 1 : Nat) : Int)) mz' mw' mx' my' := g2
      rw [g2, g5, e1, e3]
