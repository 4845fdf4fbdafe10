/-! the structure, by the reference -/
theorem r_row {A B : Int} {K : List (Int × Int)} {O : List Nat} {xs ys os : Nat → Int32} (h : qGd A B K O) (hs : qSt K O xs ys os) {q C : Nat} (hq : q ≤ K.length) (hC : C ≤ 100) {x5 x6 : Int32} : ∀ (c j a n : Nat) (s : Int64) (mz mw : Int32) (mx my : Int64), j + c = C → a ≤ K.length → c + 50 ≤ n → ∃ (mz' mw' : Int32) (mx' my' : Int64), a_md_makes_L24 (zI ((K.length + 1 : Nat) : Int)) (zI (C : Int)) (zJ A) (zJ B) xs ys (zI (q : Int)) n mz mw mx my s (zI (a : Int)) (zI (j : Int)) x5 x6 = some (mz', mw', mx', my', qrow (qsm A B K) q c a s, x5, x6)
  | 0, j, a, n + 1, s, mz, mw, mx, my, hj, _, _ => by
    rw [a_md_makes_L24, if_pos ((kI_le (by omega) (by omega)).mpr (by omega))]
    exact ⟨_, _, _, _, rfl⟩
  | c + 1, j, a, n + 1, s, mz, mw, mx, my, hj, ha, hn => by
    have hK := h.2.2.1
    obtain ⟨z1, w1, x1, y1, e⟩ := g_sumr h hs (N := n) (mz := mz) (mw := mw) (mx := mx) (my := my) (by omega) ha hq
    rw [a_md_makes_L24, if_neg (by rw [kI_le (by omega) (by omega)]; omega), e, Option.bind_some]
    dsimp only
    rw [kI_s]
    exact r_row h hs hq hC c (j + 1) _ n _ _ _ _ _ (by omega) (h.2.2.2.2.2.1 _ _ ha hq) (by omega)
  | 0, _, _, 0, _, _, _, _, _, _, _, hn => by omega
  | c + 1, _, _, 0, _, _, _, _, _, _, _, hn => by omega
theorem r_see {A B : Int} {K : List (Int × Int)} {O : List Nat} {xs ys os : Nat → Int32} (h : qGd A B K O) (hs : qSt K O xs ys os) {p q C r : Nat} (hp : p ≤ K.length) (hq : q ≤ K.length) (hC : C ≤ 100) (hr : r ≤ 100) : ∀ (d i a n : Nat) (s : Int64) (mz mw : Int32) (mx my : Int64), i + d = r → a ≤ K.length → d + 200 ≤ n → ∃ (mz' mw' : Int32) (mx' my' : Int64), a_md_makes_L8 (zI ((K.length + 1 : Nat) : Int)) (zI (r : Int)) (zI (C : Int)) (zJ A) (zJ B) xs ys (zI (p : Int)) (zI (q : Int)) n mz mw mx my (zI (a : Int)) (zI (i : Int)) s = some (if qsee (qsm A B K) p q C d a s = ((1 : Int64) <<< ((zI (Int.ofNat (K.length + 1))).toInt64 &&& 63)) - (1 : Int64) then 1 else 0, mz', mw', mx', my')
  | 0, i, a, n + 1, s, mz, mw, mx, my, hi, _, _ => by
    refine ⟨mz, mw, mx, my, ?_⟩
    rw [a_md_makes_L8, if_pos ((kI_le (by omega) (by omega)).mpr (by omega))]
    show (if s = ((1 : Int64) <<< ((zI (Int.ofNat (K.length + 1))).toInt64 &&& 63)) - (1 : Int64) then _ else _) = some (if s = ((1 : Int64) <<< ((zI (Int.ofNat (K.length + 1))).toInt64 &&& 63)) - (1 : Int64) then 1 else 0, mz, mw, mx, my)
    split <;> rfl
  | d + 1, i, a, n + 1, s, mz, mw, mx, my, hi, ha, hn => by
    have hK := h.2.2.1
    obtain ⟨z1, w1, x1, y1, e⟩ := r_row h hs (x5 := zI (a : Int)) (x6 := zI (i : Int)) hq hC C 0 a n s mz mw mx my (by omega) ha (by omega)
    obtain ⟨z2, w2, x2, y2, e2⟩ := g_sumr h hs (N := n) (mz := z1) (mw := w1) (mx := x1) (my := y1) (by omega) ha hp
    rw [a_md_makes_L8, if_neg (by rw [kI_le (by omega) (by omega)]; omega), show (0 : Int32) = zI ((0 : Nat) : Int) from rfl, e, Option.bind_some]
    dsimp only
    rw [e2, Option.bind_some]
    dsimp only
    rw [kI_s]
    exact r_see h hs hp hq hC hr d (i + 1) _ n _ _ _ _ _ (by omega) (h.2.2.2.2.2.1 _ _ ha hp) (by omega)
  | 0, _, _, 0, _, _, _, _, _, _, _, hn => by omega
  | d + 1, _, _, 0, _, _, _, _, _, _, _, hn => by omega
theorem qfir_c (T : Nat → Nat → Nat) (n q c r o : Nat) (l : List Nat) (k : Nat) : qfir T n q c r (o :: l) k = if o = r then (if qmk T n k q c r = true then k else qfir T n q c r l (k + 1)) else qfir T n q c r l (k + 1) := by
  show qB (Nat.beq o r) (qB (qmk T n k q c r) k (qfir T n q c r l (Nat.succ k))) (qfir T n q c r l (Nat.succ k)) = _
  simp only [qB_eq, qbeq]
theorem qfir_b (T : Nat → Nat → Nat) (n q c r : Nat) : ∀ (l : List Nat) (k : Nat), qfir T n q c r l k ≤ k + l.length
  | [], k => Nat.le_refl _
  | o :: l, k => by
    have h := qfir_b T n q c r l (k + 1)
    have hl : (o :: l).length = l.length + 1 := rfl
    rw [qfir_c]
    split
    · split <;> omega
    · omega
theorem r_fir {A B : Int} {K : List (Int × Int)} {O : List Nat} {xs ys os : Nat → Int32} (h : qGd A B K O) (hs : qSt K O xs ys os) {q C r : Nat} (hq : q ≤ K.length) (hC : C ≤ 100) (hr : r ≤ 100) : ∀ (l : List Nat) (k n : Nat) (mz mw : Int32) (mx my : Int64), k + l.length = K.length → (∀ i, i < l.length → l.getD i 0 = O.getD (k + i) 0) → l.length + 400 ≤ n → ∃ (mz' mw' : Int32) (mx' my' : Int64), a_md_structure_x_L103 (zI ((K.length + 1 : Nat) : Int)) (zJ A) (zJ B) xs ys os (zI (r : Int)) (zI (C : Int)) n (zI (q : Int)) (zI (k : Int)) mz mw mx my = some (mz', mw', mx', my', zI (r : Int), zI (C : Int), zI (qfir (qsm A B K) (K.length + 1) q C r l k : Int), zI (q : Int))
  | [], k, n + 1, mz, mw, mx, my, hk, _, _ => by
    have hK := h.2.2.1
    have hk : k = K.length := by simpa using hk
    rw [a_md_structure_x_L103, if_pos (by rw [show (1 : Int32) = zI 1 from rfl, zI_sub, zI_le (by omega) (by omega) (by omega) (by omega)]; omega)]
    exact ⟨_, _, _, _, rfl⟩
  | o :: l, k, n + 1, mz, mw, mx, my, hk, hO, hn => by
    have hK := h.2.2.1
    have hL := h.2.2.2.2.2.2.1
    have hl : (o :: l).length = l.length + 1 := rfl
    have hkl : k ≤ K.length := by omega
    obtain ⟨o1, o2⟩ := g_or h hkl
    have hok := hs.2 k (by omega)
    rw [Nat.zero_add] at hok
    have ho : o = O.getD k 0 := hO 0 (Nat.succ_pos _)
    have e : zI (O.getD k 0 : Int) = zI (r : Int) ↔ o = r := by rw [kI_eq (by omega) (by omega), ho]
    have ih := fun mz mw mx my => r_fir h hs hq hC hr l (k + 1) n mz mw mx my (by omega) (fun i hi => by have := hO (i + 1) (Nat.succ_lt_succ hi); rw [show k + (i + 1) = k + 1 + i by omega] at this; exact this) (by omega)
    rw [a_md_structure_x_L103, if_neg (by rw [show (1 : Int32) = zI 1 from rfl, zI_sub, zI_le (by omega) (by omega) (by omega) (by omega)]; omega), if_neg (kI_bad (by omega) (by omega)), kI_nat (by omega), hok, kI_s, qfir_c]
    by_cases h1 : o = r
    · obtain ⟨z1, w1, x1, y1, e1⟩ := r_see h hs (p := k) hkl hq hC hr r 0 0 n 0 mz mw mx my (by omega) (Nat.zero_le _) (by omega)
      rw [if_pos (e.mpr h1), if_pos h1, a_md_makes, show (0 : Int32) = zI ((0 : Nat) : Int) from rfl, e1, Option.bind_some]
      dsimp only
      unfold qmk
      by_cases h2 : qsee (qsm A B K) k q C r 0 0 = ((1 : Int64) <<< ((zI (Int.ofNat (K.length + 1))).toInt64 &&& 63)) - (1 : Int64)
      · rw [if_pos h2, if_neg (by decide), if_pos (decide_eq_true h2)]
        exact ⟨_, _, _, _, rfl⟩
      · rw [if_neg h2, if_pos (by decide), if_neg (by rw [decide_eq_true_eq]; exact h2)]
        exact ih _ _ _ _
    · rw [if_neg (fun q => h1 (e.mp q)), if_neg h1]
      exact ih _ _ _ _
  | [], _, 0, _, _, _, _, _, _, hn => by omega
  | _ :: _, _, 0, _, _, _, _, _, _, hn => by omega
theorem r_sec {mp mz mw : Int32} {m1 m2 mx my : Int64} {pa pb os : Nat → Int32} {C M : Nat} {rows : Int32} (hc : C ≤ 100) : ∀ (l : List Nat) (k n : Nat), k + l.length ≤ 40 → qOa k l os → (∀ o ∈ l, 1 ≤ o ∧ o ≤ 13) → qfst C l k ≠ 99 → l.length + M ≤ n → ∃ n', M ≤ n' + 1 ∧ a_md_structure_x_L69 mp mz mw m1 m2 mx my pa pb os n rows (zI (C : Int)) (zI (k : Int)) = a_md_structure_x_L103 mp m1 m2 pa pb os rows (zI (C : Int)) n' (zI (qfst C l k : Int)) 0 mz mw mx my
  | [], _, _, _, _, _, h, _ => absurd rfl h
  | o :: l, k, n + 1, h2, ha, ho, hq, hn => by
    have hl : (o :: l).length = l.length + 1 := rfl
    obtain ⟨o1, o2⟩ := ho o (List.mem_cons_self)
    have e : zI (o : Int) = zI (C : Int) ↔ o = C := kI_eq (by omega) (by omega)
    rw [qfst_c] at hq
    rw [a_md_structure_x_L69, if_neg (kI_bad (by omega) (by omega)), kI_nat (by omega), qOa_h ha, qfst_c]
    by_cases h : o = C
    · rw [if_pos (e.mpr h), if_pos h]
      exact ⟨n, by omega, rfl⟩
    · rw [if_neg h] at hq
      rw [if_neg (fun q => h (e.mp q)), if_neg h, kI_s]
      exact r_sec hc l (k + 1) n (by omega) (qOa_t ha) (fun q hq => ho q (List.mem_cons_of_mem _ hq)) hq (by omega)
  | _ :: _, _, 0, _, _, _, _, hn => by
    have : (0 : Nat) < 0 := by simp at hn
    omega
theorem r_max {mz mw : Int32} {c1 c2 mx my : Int64} {pa pb os : Nat → Int32} {n0 M : Nat} (hn0 : n0 ≤ 40) : ∀ (l : List Nat) (k m n : Nat), k + l.length = n0 → qOa k l os → (∀ o ∈ l, 1 ≤ o ∧ o ≤ 13) → 1 ≤ m → m ≤ 13 → l.length + 1 + M ≤ n → ∃ n', M ≤ n' ∧ a_md_structure_x_L7 (zI (n0 : Int)) mz mw c1 c2 mx my pa pb os n (zI (k : Int)) (zI (m : Int)) = a_md_structure_x_L69 (zI (n0 : Int)) mz mw c1 c2 mx my pa pb os n' (zI ((n0 / qmax l m : Nat) : Int)) (zI (qmax l m : Int)) 0
  | [], k, m, n + 1, hk, _, _, m1, m2, hn => by
    have hk : k = n0 := by simpa using hk
    rw [a_md_structure_x_L7, if_pos ((kI_le (by omega) (by omega)).mpr (by omega)), if_neg (by rw [show (0 : Int32) = zI ((0 : Nat) : Int) from rfl, kI_eq (by omega) (by omega)]; omega), zI_div (by omega) (by omega) (by omega) (by omega), ← Int.ofNat_tdiv]
    refine ⟨n, ?_, rfl⟩
    have : ([] : List Nat).length = 0 := rfl
    omega
  | o :: l, k, m, n + 1, hk, ha, ho, m1, m2, hn => by
    have hl : (o :: l).length = l.length + 1 := rfl
    obtain ⟨o1, o2⟩ := ho o (List.mem_cons_self)
    have e : zI (o : Int) ≤ zI (m : Int) ↔ o ≤ m := kI_le (by omega) (by omega)
    have ih := fun m' h1 h2 => r_max (mz := mz) (mw := mw) (c1 := c1) (c2 := c2) (mx := mx) (my := my) (pa := pa) (pb := pb) (M := M) hn0 l (k + 1) m' n (by omega) (qOa_t ha) (fun q hq => ho q (List.mem_cons_of_mem _ hq)) h1 h2 (by omega)
    rw [a_md_structure_x_L7, if_neg (by rw [kI_le (by omega) (by omega)]; omega), if_neg (kI_bad (by omega) (by omega)), kI_nat (by omega), qOa_h ha, kI_s, qmax_c]
    by_cases h : o ≤ m
    · rw [if_pos (e.mpr h), if_pos h]
      exact ih m m1 m2
    · rw [if_neg (fun q => h (e.mp q)), if_neg h]
      exact ih o (by omega) (by omega)
  | [], _, _, 0, _, _, _, _, _, hn => by omega
  | _ :: _, _, _, 0, _, _, _, _, _, hn => by omega
