/-! a point, and the calls without a curve -/
theorem i7 (i : Int32) : i = 0 ∨ i = 1 ∨ i = 2 ∨ i = 3 ∨ i = 4 ∨ i = 5 ∨ i = 6 ∨ ((i < 0 ∨ (¬ i < 0 ∧ ¬ i ≤ 6)) ∧ i ≠ 0 ∧ i ≠ 1 ∧ i ≠ 2 ∧ i ≠ 3 ∧ i ≠ 4 ∧ i ≠ 5 ∧ i ≠ 6) := by
  rcases iN i with h | ⟨k, hk, rfl⟩
  · refine Or.inr (Or.inr (Or.inr (Or.inr (Or.inr (Or.inr (Or.inr ⟨Or.inl h, ?_, ?_, ?_, ?_, ?_, ?_, ?_⟩)))))) <;> (intro e; rw [e] at h; exact absurd h (by decide))
  · by_cases h : k ≤ 6
    · rcases (show k = 0 ∨ k = 1 ∨ k = 2 ∨ k = 3 ∨ k = 4 ∨ k = 5 ∨ k = 6 by omega) with rfl | rfl | rfl | rfl | rfl | rfl | rfl
      · exact Or.inl rfl
      · exact Or.inr (Or.inl rfl)
      · exact Or.inr (Or.inr (Or.inl rfl))
      · exact Or.inr (Or.inr (Or.inr (Or.inl rfl)))
      · exact Or.inr (Or.inr (Or.inr (Or.inr (Or.inl rfl))))
      · exact Or.inr (Or.inr (Or.inr (Or.inr (Or.inr (Or.inl rfl)))))
      · exact Or.inr (Or.inr (Or.inr (Or.inr (Or.inr (Or.inr (Or.inl rfl))))))
    · have hn : ∀ m : Nat, m ≤ 6 → zI (k : Int) ≠ zI (m : Int) := fun m hm e => by
        rw [kI_eq hk (by omega)] at e
        omega
      refine Or.inr (Or.inr (Or.inr (Or.inr (Or.inr (Or.inr (Or.inr ⟨Or.inr ⟨kI_neg hk, ?_⟩, hn 0 (by omega), hn 1 (by omega), hn 2 (by omega), hn 3 (by omega), hn 4 (by omega), hn 5 (by omega), hn 6 (by omega)⟩))))))
      rw [show (6 : Int32) = zI ((6 : Nat) : Int) from rfl, kI_le hk (by omega)]
      exact h
theorem e_point {dr xs ys os pa pb po : Nat → Int32} {a c A B C : Int} {t M : Nat} {K : List (Int × Int)} {O : List Nat} (h : zCv dr xs ys os pa pb po a c A B C t M K O) {N : Nat} (hN : 80000 ≤ N) (i j : Int32) : ∃ r, a_td_point N (zI a) (zI c) (zI ((K.length + 1 : Nat) : Int)) xs ys os i j = some r ∧ a_md_point N 1 (zI a) (zI c) (zI ((K.length + 1 : Nat) : Int)) pa pb po i j = some (r, 0) := by
  obtain ⟨⟨a1, a2⟩, ⟨c1, c2⟩, -, -, -, -, -, -, -, -, -, -, hg, -, hs, hr⟩ := h
  have hl := hg.2.2.1
  have hO := hg.2.2.2.2.2.2.1
  have hO1 := hg.2.2.2.2.2.2.2.2
  have hrg := hg.2.2.2.1
  have one0 : ¬ (1 : Int32) = 0 := by decide
  unfold a_td_point a_md_point
  rcases pt_i (n := K.length + 1) (by omega) i with ⟨h1, h2⟩ | ⟨k, hk, rfl, h1, h2⟩
  · exact ⟨0, by rw [if_pos h1], by rw [if_pos h2]⟩
  · rw [h1, h2, if_neg one0, if_neg one0]
    by_cases hk0 : k = 0
    · subst hk0
      have hp0 : po 0 = 1 := by
        have := hr.2 0 (by omega)
        rw [hO1] at this
        exact this
      rw [if_pos (show zI ((0 : Nat) : Int) = (0 : Int32) from rfl)]
      by_cases hj : j = 2
      · refine ⟨1, by rw [if_pos hj], ?_⟩
        subst hj
        rw [if_neg (by decide), if_pos (by decide), if_pos rfl, if_neg (kI_bad (by omega) (by omega)), kI_nat (by omega), hp0]
      · refine ⟨0, by rw [if_neg hj], ?_⟩
        by_cases hj1 : j < 0
        · rw [if_pos hj1]
        · by_cases hj2 : j ≤ 6
          · rw [if_neg hj1, if_pos hj2, if_neg hj, if_pos (show zI ((0 : Nat) : Int) = (0 : Int32) from rfl)]
          · rw [if_neg hj1, if_neg hj2]
    · obtain ⟨m, rfl⟩ : ∃ m, k = 1 + m := ⟨k - 1, by omega⟩
      have k0 : ¬ zI ((1 + m : Nat) : Int) = 0 := kI_0 (by omega) (by omega)
      have b32 : ¬ (zI ((1 + m : Nat) : Int) < 0 ∨ 32 ≤ (zI ((1 + m : Nat) : Int)).toNatClampNeg) := kI_bad (by omega) (by omega)
      have b40 : ¬ (zI ((1 + m : Nat) : Int) < 0 ∨ 40 ≤ (zI ((1 + m : Nat) : Int)).toNatClampNeg) := kI_bad (by omega) (by omega)
      have hnat : (zI ((1 + m : Nat) : Int)).toNatClampNeg = 1 + m := kI_nat (by omega)
      obtain ⟨hx, hy⟩ := hs.1 m (by omega)
      obtain ⟨hpx, hpy⟩ := hr.1 m (by omega)
      have ho := hs.2 (1 + m) (by omega)
      have hpo := hr.2 (1 + m) (by omega)
      rw [Nat.zero_add] at ho hpo
      obtain ⟨rx, ry⟩ := hrg m (by omega)
      generalize (qnth K m).1 = X at hx hpx rx
      generalize (qnth K m).2 = Y at hy hpy ry
      generalize O.getD (1 + m) 0 = o at ho hpo
      have haX : (a * X).natAbs ≤ 6 * 5000 := zmulb (by omega) rx
      have ey : (zI Y - zI a * zI X) - 4 * zI c = zI (Y - a * X - 4 * c) := by
        rw [show (4 : Int32) = zI 4 from rfl, zI_mul, zI_mul, zI_sub, zI_sub]
      have hV : (Y - a * X - 4 * c).natAbs ≤ 10000000 := by omega
      rw [if_neg k0, if_neg b32, hnat, hx, hy, ho, ey]
      rw [hnat] at b40
      generalize Y - a * X - 4 * c = V at ey hV ⊢
      rcases i7 j with rfl | rfl | rfl | rfl | rfl | rfl | rfl | ⟨hj, g0, g1, g2, g3, g4, g5, g6⟩
      · refine ⟨zI X, by rw [if_pos rfl], ?_⟩
        rw [if_neg (by decide), if_pos (by decide), if_neg (by decide), if_neg k0, if_neg b40, if_pos (by decide), if_pos (by decide), if_pos rfl, hpx]
      · refine ⟨zI Y, by rw [if_neg (by decide), if_pos rfl], ?_⟩
        rw [if_neg (by decide), if_pos (by decide), if_neg (by decide), if_neg k0, if_neg b40, if_pos (by decide), if_pos (by decide), if_neg (by decide), if_pos rfl, hpy]
      · refine ⟨zI (o : Int), by rw [if_neg (by decide), if_neg (by decide), if_pos rfl], ?_⟩
        rw [if_neg (by decide), if_pos (by decide), if_pos rfl, if_neg b40, hpo]
      · obtain ⟨s, s1, s2, s3, s4⟩ := fr4 (X := X) (N := N) (by omega) (by omega)
        refine ⟨zI X / zI ((2 ^ s : Nat) : Int), ?_, ?_⟩
        · rw [if_neg (by decide), if_neg (by decide), if_neg (by decide), if_pos rfl, s2]
          show some (zI X >>> (zI (s : Int) &&& 31)) = _
          rw [q_div (by omega) (by omega) s4]
        · rw [if_neg (by decide), if_pos (by decide), if_neg (by decide), if_neg k0, if_neg b40, if_pos (by decide), if_pos (by decide), if_neg (by decide), if_neg (by decide), if_pos (by decide), hpx, s3]
          show (if zI ((2 ^ s : Nat) : Int) = 0 then none else some (zI X / zI ((2 ^ s : Nat) : Int), (0 : Int32))) = _
          rw [if_neg (d4_ok s (by omega)).2.2]
      · obtain ⟨s, s1, s2, s3, s4⟩ := fr4 (X := X) (N := N) (by omega) (by omega)
        refine ⟨4 / zI ((2 ^ s : Nat) : Int), ?_, ?_⟩
        · rw [if_neg (by decide), if_neg (by decide), if_neg (by decide), if_neg (by decide), if_pos rfl, s2]
          show some ((4 : Int32) >>> (zI (s : Int) &&& 31)) = _
          rw [(d4_ok s (by omega)).1]
        · rw [if_neg (by decide), if_pos (by decide), if_neg (by decide), if_neg k0, if_neg b40, if_pos (by decide), if_pos (by decide), if_neg (by decide), if_neg (by decide), if_neg (by decide), hpx, s3]
          show (if zI ((2 ^ s : Nat) : Int) = 0 then none else some ((4 : Int32) / zI ((2 ^ s : Nat) : Int), (0 : Int32))) = _
          rw [if_neg (d4_ok s (by omega)).2.2]
      · obtain ⟨s, s1, s2, s3, s4⟩ := fr8 (X := V) (N := N) (by omega) (by omega)
        refine ⟨zI V / zI ((2 ^ s : Nat) : Int), ?_, ?_⟩
        · rw [if_neg (by decide), if_neg (by decide), if_neg (by decide), if_neg (by decide), if_neg (by decide), if_pos rfl, s2]
          show some (zI V >>> (zI (s : Int) &&& 31)) = _
          rw [q_div (by omega) (by omega) s4]
        · rw [if_neg (by decide), if_pos (by decide), if_neg (by decide), if_neg k0, if_neg b40, if_neg (by decide), if_neg (by decide), if_neg (by decide), if_neg (by decide), if_pos (by decide), hpx, hpy, ey, s3]
          show (if zI ((2 ^ s : Nat) : Int) = 0 then none else some (zI V / zI ((2 ^ s : Nat) : Int), (0 : Int32))) = _
          rw [if_neg (d4_ok s (by omega)).2.2]
      · obtain ⟨s, s1, s2, s3, s4⟩ := fr8 (X := V) (N := N) (by omega) (by omega)
        refine ⟨8 / zI ((2 ^ s : Nat) : Int), ?_, ?_⟩
        · rw [if_neg (by decide), if_neg (by decide), if_neg (by decide), if_neg (by decide), if_neg (by decide), if_neg (by decide), if_pos rfl, s2]
          show some ((8 : Int32) >>> (zI (s : Int) &&& 31)) = _
          rw [(d4_ok s (by omega)).2.1]
        · rw [if_neg (by decide), if_pos (by decide), if_neg (by decide), if_neg k0, if_neg b40, if_neg (by decide), if_neg (by decide), if_neg (by decide), if_neg (by decide), if_neg (by decide), hpx, hpy, ey, s3]
          show (if zI ((2 ^ s : Nat) : Int) = 0 then none else some ((8 : Int32) / zI ((2 ^ s : Nat) : Int), (0 : Int32))) = _
          rw [if_neg (d4_ok s (by omega)).2.2]
      · refine ⟨0, by rw [if_neg g0, if_neg g1, if_neg g2, if_neg g3, if_neg g4, if_neg g5, if_neg g6], ?_⟩
        rcases hj with hj | ⟨hj, hj2⟩
        · rw [if_pos hj]
        · rw [if_neg hj, if_neg hj2]
theorem has0 (i : Int32) : a_fp_has 0 i = 0 := by
  unfold a_fp_has
  rcases iN i with h | ⟨k, hk, rfl⟩
  · rw [if_pos h]
  · rw [if_neg (kI_neg hk), if_pos (by rw [show (0 : Int32) = zI ((0 : Nat) : Int) from rfl, kI_le (by omega) hk]; omega)]
theorem n_isp (mp i : Int32) : a_md_isPoint 0 mp i = 0 := by
  unfold a_md_isPoint
  rw [if_pos rfl]
theorem n_cand {dr : Nat → Int32} {m4 : Int64} {N : Nat} (hN : 80000 ≤ N) (i : Int32) : a_td_candidate 0 dr i = some (-1) ∧ a_md_candidate N 0 m4 i = some (-1, 0) := by
  obtain ⟨n, rfl⟩ : ∃ k, N = k + 1 := ⟨N - 1, by omega⟩
  unfold a_td_candidate a_md_candidate
  rw [if_pos (show (0 : Int32) = 0 from rfl), m_cneg]
  refine ⟨?_, rfl⟩
  rcases iN i with h | ⟨k, hk, rfl⟩
  · rw [if_pos h]
  · rw [if_neg (kI_neg hk), if_pos (by rw [show (0 : Int32) = zI ((0 : Nat) : Int) from rfl, kI_le (by omega) hk]; omega)]
theorem n_point {ta tc ma mc mp : Int32} {xs ys os pa pb po : Nat → Int32} {N : Nat} (i j : Int32) : a_td_point N ta tc 0 xs ys os i j = some 0 ∧ a_md_point N 0 ma mc mp pa pb po i j = some (0, 0) := by
  unfold a_td_point a_md_point
  exact ⟨by rw [if_pos (has0 i)], by rw [if_pos (n_isp mp i)]⟩
theorem n_find {mp : Int32} {xs ys pa pb : Nat → Int32} {N : Nat} (hN : 80000 ≤ N) (i j : Int32) : a_td_find N 0 xs ys i j = some (-1) ∧ a_md_find N 0 mp pa pb i j = some (-1, 0) := by
  obtain ⟨n, rfl⟩ : ∃ k, N = k + 1 := ⟨N - 1, by omega⟩
  unfold a_td_find a_md_find a_fp_numberOf
  rw [a_fp_numberOf_L3, if_pos (show (0 : Int32) ≤ 1 by decide), if_pos rfl]
  exact ⟨rfl, rfl⟩
theorem n_sum {sq li m1 m2 mx my : Int64} {mp mz mw : Int32} {xs ys pa pb : Nat → Int32} {N : Nat} (i j : Int32) : a_td_sum N sq li 0 xs ys i j = some (-1) ∧ a_md_sum N 0 mp mz mw m1 m2 mx my pa pb i j = some (-1, 0, mz, mw, mx, my) := by
  unfold a_td_sum a_md_sum a_fp_added
  rw [if_pos (has0 i), if_pos (n_isp mp i)]
  exact ⟨rfl, rfl⟩
theorem n_times {sq li m1 m2 mx my : Int64} {mp mz mw : Int32} {xs ys os pa pb po : Nat → Int32} {N : Nat} (i j : Int32) : a_td_times N sq li 0 xs ys os i j = some (-1) ∧ a_md_times N 0 mp mz mw m1 m2 mx my pa pb po i j = some (-1, 0, mz, mw, mx, my) := by
  unfold a_td_times a_md_times a_fp_multiple
  rw [if_pos (has0 j), if_pos (n_isp mp j)]
  exact ⟨rfl, rfl⟩
