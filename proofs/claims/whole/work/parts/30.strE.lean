/-! the structure, on both sides -/
noncomputable def qC (O : List Nat) : Nat := qmax O 1
noncomputable def qR (O : List Nat) : Nat := O.length / qC O
noncomputable def qQ (O : List Nat) : Nat := qfst (qC O) O 0
noncomputable def qP (T : Nat → Nat → Nat) (O : List Nat) : Nat := qfir T O.length (qQ O) (qC O) (qR O) O.dropLast 0
theorem qstr_i {T : Nat → Nat → Nat} {O : List Nat} (h : qstr T O = true) : qQ O ≠ 99 ∧ qsmk T (qR O) (qQ O) O 0 = qP T O := by
  unfold qstr at h
  rw [qF_eq, qF_eq, qF_eq, qB_eq] at h
  split at h
  · cases h
  · rename_i h1
    rw [qbeq] at h h1
    exact ⟨h1, h⟩
theorem g_C {A B : Int} {K : List (Int × Int)} {O : List Nat} (h : qGd A B K O) : 1 ≤ qC O ∧ qC O ≤ 13 := qmax_b O 1 h.2.2.2.2.2.2.2.1 (by omega) (by omega)
theorem g_R {A B : Int} {K : List (Int × Int)} {O : List Nat} (h : qGd A B K O) : qR O ≤ 32 := by
  have h1 := h.2.2.1
  have h2 := h.2.2.2.2.2.2.1
  exact Nat.le_trans (Nat.div_le_self _ _) (by omega)
theorem g_Q {A B : Int} {K : List (Int × Int)} {O : List Nat} (h : qGd A B K O) (hq : qQ O ≠ 99) : qQ O ≤ K.length := by
  have h2 := h.2.2.2.2.2.2.1
  rcases qfst_b (qC O) O 0 with h1 | h1
  · exact absurd h1 hq
  · unfold qQ; omega
theorem g_P {A B : Int} {K : List (Int × Int)} {O : List Nat} (h : qGd A B K O) (T : Nat → Nat → Nat) : qP T O ≤ K.length := by
  have h2 := h.2.2.2.2.2.2.1
  have := qfir_b T O.length (qQ O) (qC O) (qR O) O.dropLast 0
  have e : O.dropLast.length = O.length - 1 := List.length_dropLast
  unfold qP
  omega
theorem getD_drop (O : List Nat) (i : Nat) (hi : i < O.dropLast.length) : O.dropLast.getD i 0 = O.getD (0 + i) 0 := by
  have e : O.dropLast.length = O.length - 1 := List.length_dropLast
  rw [Nat.zero_add, List.getD_eq_getElem?_getD, List.getD_eq_getElem?_getD, List.getElem?_dropLast, if_pos (by omega)]
theorem r_str {A B : Int} {K : List (Int × Int)} {O : List Nat} {xs ys os : Nat → Int32} (h : qGd A B K O) (hs : qSt K O xs ys os) (hq : qstr (qsm A B K) O = true) {N : Nat} (hN : 1000 ≤ N) (mz mw : Int32) (mx my : Int64) : ∃ (mz' mw' : Int32) (mx' my' : Int64), a_md_structure_x N (zI ((K.length + 1 : Nat) : Int)) mz mw (zJ A) (zJ B) mx my xs ys os = some (mz', mw', mx', my', zI (qR O : Int), zI (qC O : Int), zI (qP (qsm A B K) O : Int), zI (qQ O : Int)) := by
  obtain ⟨q1, q2⟩ := qstr_i hq
  have hQ := g_Q h q1
  have hC := g_C h
  have hR := g_R h
  have hK := h.2.2.1
  have hL := h.2.2.2.2.2.2.1
  have hO := h.2.2.2.2.2.2.2.1
  have h0 := h.2.2.2.2.2.2.2.2
  have hcons : ∃ l, O = 1 :: l := by
    match O, hL, h0 with
    | o :: l, _, h0 => exact ⟨l, by rw [show o = 1 from h0]⟩
  obtain ⟨l, hl⟩ := hcons
  have hll : l.length = K.length := by rw [hl] at hL; simpa using hL
  have e1 : qmax l 1 = qC O := by rw [qC, hl, qmax_c]; rfl
  obtain ⟨n1, hn1, f1⟩ := r_max (mz := mz) (mw := mw) (c1 := zJ A) (c2 := zJ B) (mx := mx) (my := my) (pa := xs) (pb := ys) (os := os) (n0 := K.length + 1) (M := 900) (by omega) l 1 1 N (by omega) (by have := hs.2; rw [hl] at this; exact qOa_t this) (fun o ho => hO o (by rw [hl]; exact List.mem_cons_of_mem _ ho)) (by omega) (by omega) (by omega)
  rw [e1, show (K.length + 1) / qC O = qR O by rw [qR, hL]] at f1
  obtain ⟨n2, hn2, f2⟩ := r_sec (mp := zI ((K.length + 1 : Nat) : Int)) (mz := mz) (mw := mw) (m1 := zJ A) (m2 := zJ B) (mx := mx) (my := my) (pa := xs) (pb := ys) (os := os) (C := qC O) (M := 800) (rows := zI (qR O : Int)) (by omega) O 0 n1 (by omega) hs.2 hO q1 (by omega)
  obtain ⟨z, w, x, y, f3⟩ := r_fir h hs hQ (C := qC O) (r := qR O) (by omega) (by omega) O.dropLast 0 n2 mz mw mx my (by rw [List.length_dropLast]; omega) (fun i hi => getD_drop O i hi) (by rw [List.length_dropLast]; omega)
  refine ⟨z, w, x, y, ?_⟩
  unfold a_md_structure_x
  rw [show (1 : Int32) = zI ((1 : Nat) : Int) from rfl, f1, show (0 : Int32) = zI ((0 : Nat) : Int) from rfl, f2, show (0 : Int32) = zI ((0 : Nat) : Int) from rfl, show qfst (qC O) O 0 = qQ O from rfl, f3, ← hL]
  rfl
theorem c_great {A B : Int} {K : List (Int × Int)} {O : List Nat} {xs ys os : Nat → Int32} (h : qGd A B K O) (hs : qSt K O xs ys os) {N : Nat} (hN : 1000 ≤ N) : a_fp_greatestOrder N (zI ((K.length + 1 : Nat) : Int)) os = some (zI (qC O : Int)) := by
  have hK := h.2.2.1
  have hL := h.2.2.2.2.2.2.1
  unfold a_fp_greatestOrder
  exact s_max O 0 1 N (by omega) (by rw [Nat.zero_add, hL]) hs.2 h.2.2.2.2.2.2.2.1 (by omega) (by omega) (by omega)
theorem c_fac {A B : Int} {K : List (Int × Int)} {O : List Nat} {xs ys os : Nat → Int32} (h : qGd A B K O) (hs : qSt K O xs ys os) {N : Nat} (hN : 1000 ≤ N) : a_fp_smallerFactor N (zI ((K.length + 1 : Nat) : Int)) os = some (zI (qR O : Int)) := by
  have hK := h.2.2.1
  have hL := h.2.2.2.2.2.2.1
  have hC := g_C h
  unfold a_fp_smallerFactor
  rw [c_great h hs hN, Option.bind_some, if_neg (by rw [show (0 : Int32) = zI ((0 : Nat) : Int) from rfl, kI_le (by omega) (by omega)]; omega), if_neg (by rw [show (0 : Int32) = zI ((0 : Nat) : Int) from rfl, kI_eq (by omega) (by omega)]; omega), zI_div (by omega) (by omega) (by omega) (by omega), ← Int.ofNat_tdiv, qR, hL]
theorem c_mak {A B : Int} {K : List (Int × Int)} {O : List Nat} {xs ys os : Nat → Int32} (h : qGd A B K O) (hs : qSt K O xs ys os) (hq : qQ O ≠ 99) {N : Nat} (hN : 1000 ≤ N) : a_fp_greaterMaker N (zI ((K.length + 1 : Nat) : Int)) os = some (zI (qQ O : Int)) := by
  have hK := h.2.2.1
  have hL := h.2.2.2.2.2.2.1
  have hC := g_C h
  unfold a_fp_greaterMaker
  rw [c_great h hs hN, Option.bind_some, show (0 : Int32) = zI ((0 : Nat) : Int) from rfl, s_fst (by omega) O 0 N (by omega) (by rw [Nat.zero_add, hL]) hs.2 h.2.2.2.2.2.2.2.1 (by omega), show qfst (qC O) O 0 = qQ O from rfl, qi, if_neg hq]
theorem c_smk {A B : Int} {K : List (Int × Int)} {O : List Nat} {xs ys os : Nat → Int32} (h : qGd A B K O) (hs : qSt K O xs ys os) (hq : qstr (qsm A B K) O = true) {N : Nat} (hN : 1000 ≤ N) : a_fp_smallerMaker N (zI ((K.length + 1 : Nat) : Int)) xs ys os (zJ A) (zJ B) = some (zI (qP (qsm A B K) O : Int)) := by
  obtain ⟨q1, q2⟩ := qstr_i hq
  have hK := h.2.2.1
  have hL := h.2.2.2.2.2.2.1
  have hR := g_R h
  have hP := g_P h (qsm A B K)
  unfold a_fp_smallerMaker
  rw [c_fac h hs hN, Option.bind_some, c_mak h hs q1 hN, Option.bind_some, show (0 : Int32) = zI ((0 : Nat) : Int) from rfl, s_smk h hs (by omega) (g_Q h q1) O 0 N (by omega) (fun i hi => by rw [Nat.zero_add]) (by omega), q2, qi, if_neg (by omega)]
