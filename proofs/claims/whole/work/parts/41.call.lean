/-! the calls, side by side -/
def zCv (dr xs ys os pa pb po : Nat → Int32) (a c A B C : Int) (t M : Nat) (K : List (Int × Int)) (O : List Nat) : Prop :=
  (-6 ≤ a ∧ a ≤ 6) ∧ (-6 ≤ c ∧ c ≤ 6) ∧ zR A B C ∧ qD A B C ≠ 0 ∧ (qD A B C).natAbs ≤ 892366848 ∧ sdr (qD A B C).natAbs t ∧ isq (qD A B C).natAbs M ∧ t ≤ M ∧ 0 < t ∧ t ≤ 32767 ∧ (dvs t 1 M).length ≤ 64 ∧ dAr (dvs t 1 M) dr ∧ qGd A B K O ∧ qstr (qsm A B K) O = true ∧ qSt K O xs ys os ∧ qSt K O pa pb po
theorem iN (i : Int32) : i < 0 ∨ ∃ k : Nat, k ≤ 2147483647 ∧ i = zI (k : Int) := by
  obtain ⟨h1, h2⟩ := zI_rng i
  have e := zI_of i
  generalize i.toInt = v at h1 h2 e
  subst e
  by_cases h : v < 0
  · exact Or.inl (by rw [show (0 : Int32) = zI 0 from rfl, zI_lt h1 h2 (by omega) (by omega)]; exact h)
  · exact Or.inr ⟨v.toNat, by omega, by rw [show ((v.toNat : Nat) : Int) = v by omega]⟩
theorem pt_i {n : Nat} (hn : n ≤ 40) (i : Int32) : (a_fp_has (zI (n : Int)) i = 0 ∧ a_md_isPoint 1 (zI (n : Int)) i = 0) ∨ ∃ k : Nat, k < n ∧ i = zI (k : Int) ∧ a_fp_has (zI (n : Int)) i = 1 ∧ a_md_isPoint 1 (zI (n : Int)) i = 1 := by
  unfold a_fp_has a_md_isPoint
  rw [if_neg (show ¬ (1 : Int32) = 0 by decide)]
  rcases iN i with h | ⟨k, hk, rfl⟩
  · left
    rw [if_pos h]
    exact ⟨rfl, rfl⟩
  · have e : zI (n : Int) ≤ zI (k : Int) ↔ n ≤ k := kI_le (by omega) hk
    rw [if_neg (kI_neg hk)]
    by_cases h : n ≤ k
    · left
      rw [if_pos (e.mpr h)]
      exact ⟨rfl, rfl⟩
    · right
      refine ⟨k, by omega, rfl, ?_⟩
      rw [if_neg (fun q => h (e.mp q))]
      exact ⟨rfl, rfl⟩
theorem m_cand {D : Int} {d t M : Nat} (hD : D.natAbs = d) (hd : d ≤ 892366848) (hs : sdr d t) (hM : isq d M) (hM2 : M ≤ 32767) : ∀ (m y k n : Nat), y + m = M + 1 → 1 ≤ y → k ≤ 2147483647 → m < n → a_md_candidate_L47 (zJ D) n (zJ (d : Int)) (zJ (y : Int)) (zI (k : Int)) = some (((dvs t y m)[k]?).elim (-1) (fun v => zI (v : Int)), 0)
  | 0, y, k, n + 1, hy, h1, hk, _ => by
    have e : y = M + 1 := by omega
    have hb : y * y ≤ 32768 * 32768 := sq_b (by omega)
    rw [a_md_candidate_L47, kJ_mul, if_pos (by rw [kJ_lt (by omega) (by omega), e]; exact hM.2)]
    rfl
  | m + 1, y, k, n + 1, hy, h1, hk, hn => by
    have hb : y * y ≤ 32768 * 32768 := sq_b (by omega)
    have hy2 : y * y ≤ M * M := sq_b (by omega)
    have h2 := hM.1
    have hy0 : 1 ≤ y * y := Nat.mul_pos h1 h1
    have e : (zJ D - zJ D / zJ ((y * y : Nat) : Int) * zJ ((y * y : Nat) : Int) = 0) ↔ y ∣ t := by
      rw [show (0 : Int64) = zJ 0 from rfl, zJ_rem0 (by omega) (by omega) (by omega) (by omega), ← Int.dvd_natAbs, hD, Int.ofNat_dvd]
      exact hs y
    rw [a_md_candidate_L47, kJ_mul, if_neg (by rw [kJ_lt (by omega) (by omega)]; omega), if_neg (by rw [show (0 : Int64) = zJ ((0 : Nat) : Int) from rfl, kJ_eq (by omega) (by omega)]; omega), show zJ (y : Int) + 1 = zJ ((y + 1 : Nat) : Int) from kJ_add y 1, dvs_s]
    by_cases h : y ∣ t
    · rw [if_pos (e.mpr h), if_pos h]
      by_cases hk0 : k = 0
      · subst hk0
        rw [if_pos (show zI ((0 : Nat) : Int) = (0 : Int32) from rfl), zJ_int]
        rfl
      · obtain ⟨j, rfl⟩ : ∃ j, k = j + 1 := ⟨k - 1, by omega⟩
        rw [if_neg (kI_0 (by omega) (by omega)), show zI ((j + 1 : Nat) : Int) + (-1 : Int32) = zI (j : Int) by (rw [show (-1 : Int32) = zI (-1) from rfl, zI_add, show ((j + 1 : Nat) : Int) + -1 = (j : Int) by omega]), List.getElem?_cons_succ]
        exact m_cand hD hd hs hM hM2 m (y + 1) j n (by omega) (by omega) (by omega) (by omega)
    · rw [if_neg (fun q => h (e.mp q)), if_neg h]
      exact m_cand hD hd hs hM hM2 m (y + 1) k n (by omega) (by omega) (by omega) (by omega)
theorem isq_b {d M : Nat} (hM : isq d M) (hd : d ≤ 892366848) : M ≤ 32767 := by
  by_cases h : M ≤ 32767
  · exact h
  · have := sq_b (show 32768 ≤ M by omega)
    have := hM.1
    omega
theorem m_cneg {D : Int64} {n : Nat} {i : Int32} : a_md_candidate_L47 D (n + 1) 0 1 i = some (-1, 0) := by
  rw [a_md_candidate_L47, if_pos (by decide)]
theorem e_cand {dr xs ys os pa pb po : Nat → Int32} {a c A B C : Int} {t M : Nat} {K : List (Int × Int)} {O : List Nat} (h : zCv dr xs ys os pa pb po a c A B C t M K O) {N : Nat} (hN : 80000 ≤ N) (i : Int32) : ∃ r, a_td_candidate (zI ((dvs t 1 M).length : Int)) dr i = some r ∧ a_md_candidate N 1 (zJ (qD A B C)) i = some (r, 0) := by
  obtain ⟨-, -, -, -, hd, hs, hM, -, -, -, hl, ha, -⟩ := h
  have hM2 := isq_b hM hd
  obtain ⟨n, rfl⟩ : ∃ k, N = k + 1 := ⟨N - 1, by omega⟩
  unfold a_td_candidate a_md_candidate
  rw [if_neg (show ¬ (1 : Int32) = 0 by decide)]
  rcases iN i with hi | ⟨k, hk, rfl⟩
  · exact ⟨-1, by rw [if_pos hi], by rw [if_pos hi, m_cneg]⟩
  · have g := m_cand rfl hd hs hM hM2 M 1 k (n + 1) (by omega) (by omega) hk (by omega)
    have g2 : (if (0 : Int64) ≤ zJ (qD A B C) then a_md_candidate_L47 (zJ (qD A B C)) (n + 1) (zJ (qD A B C)) 1 (zI (k : Int)) else a_md_candidate_L47 (zJ (qD A B C)) (n + 1) (-zJ (qD A B C)) 1 (zI (k : Int))) = some (((dvs t 1 M)[k]?).elim (-1) (fun v => zI (v : Int)), 0) := by
      generalize qD A B C = D at hd g ⊢
      have e : (0 : Int64) ≤ zJ D ↔ 0 ≤ D := by rw [show (0 : Int64) = zJ 0 from rfl]; exact zJ_le (by omega) (by omega) (by omega) (by omega)
      by_cases h0 : 0 ≤ D
      · rw [if_pos (e.mpr h0)]
        rw [show ((D.natAbs : Nat) : Int) = D by omega] at g
        exact g
      · rw [if_neg (fun q => h0 (e.mp q)), zJ_neg]
        rw [show ((D.natAbs : Nat) : Int) = -D by omega] at g
        exact g
    refine ⟨((dvs t 1 M)[k]?).elim (-1) (fun v => zI (v : Int)), ?_, by rw [if_neg (kI_neg hk)]; exact g2⟩
    rw [if_neg (kI_neg hk)]
    have e : zI ((dvs t 1 M).length : Int) ≤ zI (k : Int) ↔ (dvs t 1 M).length ≤ k := kI_le (by omega) hk
    by_cases hlk : (dvs t 1 M).length ≤ k
    · rw [if_pos (e.mpr hlk), List.getElem?_eq_none hlk]
      rfl
    · rw [if_neg (fun q => hlk (e.mp q)), if_neg (kI_bad hk (by omega)), kI_nat hk, ha k (by omega), List.getD_eq_getElem?_getD]
      rw [List.getElem?_eq_getElem (by omega)]
      rfl
theorem e_find {dr xs ys os pa pb po : Nat → Int32} {a c A B C : Int} {t M : Nat} {K : List (Int × Int)} {O : List Nat} (h : zCv dr xs ys os pa pb po a c A B C t M K O) {N : Nat} (hN : 80000 ≤ N) (i j : Int32) : ∃ r, a_td_find N (zI ((K.length + 1 : Nat) : Int)) xs ys i j = some r ∧ a_md_find N 1 (zI ((K.length + 1 : Nat) : Int)) pa pb i j = some (r, 0) := by
  obtain ⟨-, -, -, -, -, -, -, -, -, -, -, -, hg, -, hs, hr⟩ := h
  obtain ⟨-, -, hl, hrg, -⟩ := hg
  obtain ⟨h1, h2⟩ := zI_rng i
  obtain ⟨h3, h4⟩ := zI_rng j
  have c1 := y_num (z := i.toInt) (w := j.toInt) (fn := zI ((K.length + 1 : Nat) : Int)) (by omega) (fun _ => by omega) K 1 N (by omega) (by omega) (by rw [Nat.add_comm]) hs.1 hrg (by omega)
  have c2 := y_numr (z := i.toInt) (w := j.toInt) (fn := zI ((K.length + 1 : Nat) : Int)) (by omega) (fun _ => by omega) K 1 N (by omega) (by omega) (by rw [Nat.add_comm]) hr.1 hrg (by omega)
  refine ⟨qio (qfnd i.toInt j.toInt K 1), ?_, ?_⟩
  · unfold a_td_find a_fp_numberOf
    rw [zI_long' i, zI_long' j]
    have c1 : a_fp_numberOf_L3 (zI ((K.length + 1 : Nat) : Int)) xs ys (zJ i.toInt) (zJ j.toInt) N 1 = some (qio (qfnd i.toInt j.toInt K 1)) := c1
    rw [c1]
    rfl
  · unfold a_md_find a_md_number
    rw [if_neg (show ¬ (1 : Int32) = 0 by decide), zI_long' i, zI_long' j]
    have c2 : a_md_number_L3 (zI ((K.length + 1 : Nat) : Int)) pa pb (zJ i.toInt) (zJ j.toInt) N 1 = some (qio (qfnd i.toInt j.toInt K 1)) := c2
    rw [c2]
    rfl
theorem e_sum {dr xs ys os pa pb po : Nat → Int32} {a c A B C : Int} {t M : Nat} {K : List (Int × Int)} {O : List Nat} (h : zCv dr xs ys os pa pb po a c A B C t M K O) {N : Nat} (hN : 80000 ≤ N) (i j : Int32) (mz mw : Int32) (mx my : Int64) : ∃ (r mz' mw' : Int32) (mx' my' : Int64), a_td_sum N (zJ A) (zJ B) (zI ((K.length + 1 : Nat) : Int)) xs ys i j = some r ∧ a_md_sum N 1 (zI ((K.length + 1 : Nat) : Int)) mz mw (zJ A) (zJ B) mx my pa pb i j = some (r, 0, mz', mw', mx', my') := by
  obtain ⟨-, -, -, -, -, -, -, -, -, -, -, -, hg, -, hs, hr⟩ := h
  have hl := hg.2.2.1
  unfold a_td_sum a_md_sum
  rcases pt_i (n := K.length + 1) (by omega) i with ⟨h1, h2⟩ | ⟨k, hk, rfl, h1, h2⟩
  · refine ⟨-1, mz, mw, mx, my, ?_, by rw [if_pos h2]⟩
    unfold a_fp_added
    rw [if_pos h1]
    rfl
  · rcases pt_i (n := K.length + 1) (by omega) j with ⟨h3, h4⟩ | ⟨m, hm, rfl, h3, h4⟩
    · refine ⟨-1, mz, mw, mx, my, ?_, by rw [h2, if_neg (by decide), if_pos h4]⟩
      unfold a_fp_added
      rw [h1, if_neg (by decide), if_pos h3]
      rfl
    · obtain ⟨mz', mw', mx', my', e⟩ := g_sumr hg hr (N := N) (j := k) (k := m) (mz := mz) (mw := mw) (mx := mx) (my := my) (by omega) (by omega) (by omega)
      refine ⟨zI (qsm A B K k m : Int), mz', mw', mx', my', ?_, ?_⟩
      · rw [g_sum hg hs (by omega) (by omega) (by omega)]
        rfl
      · rw [h2, h4, if_neg (by decide), if_neg (by decide), e]
        rfl
theorem e_times {dr xs ys os pa pb po : Nat → Int32} {a c A B C : Int} {t M : Nat} {K : List (Int × Int)} {O : List Nat} (h : zCv dr xs ys os pa pb po a c A B C t M K O) {N : Nat} (hN : 80000 ≤ N) (i j : Int32) (mz mw : Int32) (mx my : Int64) : ∃ (r mz' mw' : Int32) (mx' my' : Int64), a_td_times N (zJ A) (zJ B) (zI ((K.length + 1 : Nat) : Int)) xs ys os i j = some r ∧ a_md_times N 1 (zI ((K.length + 1 : Nat) : Int)) mz mw (zJ A) (zJ B) mx my pa pb po i j = some (r, 0, mz', mw', mx', my') := by
  obtain ⟨-, -, -, -, -, -, -, -, -, -, -, -, hg, -, hs, hr⟩ := h
  have hl := hg.2.2.1
  unfold a_td_times a_md_times
  rcases pt_i (n := K.length + 1) (by omega) j with ⟨h1, h2⟩ | ⟨k, hk, rfl, h1, h2⟩
  · refine ⟨-1, mz, mw, mx, my, ?_, by rw [if_pos h2]⟩
    unfold a_fp_multiple
    rw [if_pos h1]
    rfl
  · obtain ⟨v1, v2⟩ := zI_rng i
    have ev := zI_of i
    generalize i.toInt = v at v1 v2 ev
    subst ev
    have hO := hg.2.2.2.2.2.2.1
    obtain ⟨o1, o2⟩ := g_or hg (k := k) (by omega)
    have ho : po k = zI (O.getD k 0 : Int) := by
      have := hr.2 k (by omega)
      rw [Nat.zero_add] at this
      exact this
    have hc := g_times hg hs (N := N) (k := k) (t := v) v1 v2 (by omega) (by omega)
    generalize O.getD k 0 = o at o1 o2 ho hc
    have ht := f_tmod (n := v) (o := (o : Int)) (by omega)
    have he1 := Int.emod_nonneg v (show (o : Int) ≠ 0 by omega)
    have he2 := Int.emod_lt_of_pos v (show (0 : Int) < o by omega)
    have hq : ∃ T : Nat, v % (o : Int) = (T : Int) ∧ T ≤ 13 := ⟨(v % (o : Int)).toNat, by omega, by omega⟩
    obtain ⟨T, hT, hT2⟩ := hq
    rw [hT, Int.toNat_natCast] at hc
    obtain ⟨mz', mw', mx', my', e⟩ := g_mulr hg hr (k := k) (t := T) (by omega) (by omega) T 0 N mz mw mx my (by omega) (by omega)
    have e : a_md_multiple N (zI ((K.length + 1 : Nat) : Int)) mz mw (zJ A) (zJ B) mx my pa pb (zI (T : Int)) (zI (k : Int)) = some (zI (qmul (qsm A B K) k T : Int), mz', mw', mx', my') := e
    refine ⟨zI (qmul (qsm A B K) k T : Int), mz', mw', mx', my', ?_, ?_⟩
    · rw [hc]
      rfl
    · rw [hT] at ht
      have h13 : -13 ≤ v.tmod o ∧ v.tmod o ≤ 13 := by
        split at ht
        · omega
        · split at ht <;> omega
      rw [h2, if_neg (by decide), if_neg (kI_bad (by omega) (by omega)), kI_nat (by omega), ho, if_neg (kI_0 (by omega) (by omega)), zI_rem v1 v2 (by omega) (by omega)]
      have ez : (0 : Int32) ≤ zI (v.tmod o) ↔ 0 ≤ v.tmod o := by rw [show (0 : Int32) = zI 0 from rfl]; exact zI_le (by omega) (by omega) (by omega) (by omega)
      have hsg : v.tmod o = T ∧ 0 ≤ v.tmod o ∨ v.tmod o + o = T ∧ ¬ 0 ≤ v.tmod o := by
        split at ht
        · rename_i h0
          left
          exact ⟨ht.symm, by omega⟩
        · rename_i h0
          split at ht
          · left
            exact ⟨ht.symm, by omega⟩
          · rename_i h3
            right
            refine ⟨ht.symm, fun q => ?_⟩
            omega
      rcases hsg with ⟨q1, q2⟩ | ⟨q1, q2⟩
      · rw [if_pos (ez.mpr q2), q1, e]
        rfl
      · rw [if_neg (fun q => q2 (ez.mp q)), zI_add, q1, e]
        rfl
theorem i4 (i : Int32) : i = 0 ∨ i = 1 ∨ i = 2 ∨ i = 3 ∨ ((i < 0 ∨ (¬ i < 0 ∧ ¬ i ≤ 3)) ∧ i ≠ 0 ∧ i ≠ 1 ∧ i ≠ 2 ∧ i ≠ 3) := by
  by_cases h0 : i = 0
  · exact Or.inl h0
  · by_cases h1 : i = 1
    · exact Or.inr (Or.inl h1)
    · by_cases h2 : i = 2
      · exact Or.inr (Or.inr (Or.inl h2))
      · by_cases h3 : i = 3
        · exact Or.inr (Or.inr (Or.inr (Or.inl h3)))
        · refine Or.inr (Or.inr (Or.inr (Or.inr ⟨?_, h0, h1, h2, h3⟩)))
          rcases iN i with h | ⟨k, hk, rfl⟩
          · exact Or.inl h
          · refine Or.inr ⟨kI_neg hk, ?_⟩
            rw [show (3 : Int32) = zI ((3 : Nat) : Int) from rfl, kI_le hk (by omega)]
            intro h
            rcases (show k = 0 ∨ k = 1 ∨ k = 2 ∨ k = 3 by omega) with rfl | rfl | rfl | rfl
            · exact h0 rfl
            · exact h1 rfl
            · exact h2 rfl
            · exact h3 rfl
theorem e_str {dr xs ys os pa pb po : Nat → Int32} {a c A B C : Int} {t M : Nat} {K : List (Int × Int)} {O : List Nat} (h : zCv dr xs ys os pa pb po a c A B C t M K O) {N : Nat} (hN : 80000 ≤ N) (i : Int32) : ∃ r, a_td_structure N 1 (zJ A) (zJ B) (zI ((K.length + 1 : Nat) : Int)) xs ys os i = some r ∧ a_md_structure_Ix 1 (zI (qR O : Int)) (zI (qC O : Int)) (zI (qP (qsm A B K) O : Int)) (zI (qQ O : Int)) i = some (r, 0) := by
  obtain ⟨-, -, -, -, -, -, -, -, -, -, -, -, hg, hq, hs, hr⟩ := h
  unfold a_td_structure a_md_structure_Ix
  rw [if_neg (show ¬ (1 : Int32) = 0 by decide), if_neg (show ¬ (1 : Int32) = 0 by decide)]
  rcases i4 i with rfl | rfl | rfl | rfl | ⟨hi, h0, h1, h2, h3⟩
  · refine ⟨zI (qR O : Int), ?_, rfl⟩
    rw [if_pos rfl, c_fac hg hs (by omega)]
    rfl
  · refine ⟨zI (qC O : Int), ?_, rfl⟩
    rw [if_neg (by decide), if_pos rfl, c_great hg hs (by omega)]
    rfl
  · refine ⟨zI (qP (qsm A B K) O : Int), ?_, rfl⟩
    rw [if_neg (by decide), if_neg (by decide), if_pos rfl, c_smk hg hs hq (by omega)]
    rfl
  · refine ⟨zI (qQ O : Int), ?_, rfl⟩
    rw [if_neg (by decide), if_neg (by decide), if_neg (by decide), if_pos rfl, c_mak hg hs (qstr_i hq).1 (by omega)]
    rfl
  · refine ⟨-1, ?_, ?_⟩
    · rw [if_neg h0, if_neg h1, if_neg h2, if_neg h3]
    · rcases hi with hi | ⟨hi, hj⟩
      · rw [if_pos hi]
      · rw [if_neg hi, if_neg hj]
