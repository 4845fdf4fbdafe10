/-! orders, and the reference's sums -/
theorem qoc_s (A B : Int) (R : List (Int × Int)) (k f m n : Nat) : qoc A B R k (f + 1) m n = if m = 0 then n else if m = 99 then 0 else qoc A B R k f (qsm A B R m k) (n + 1) := by
  show qB (Nat.beq m 0) n (qB (Nat.beq m 99) 0 (qoc A B R k f (qsm A B R m k) (Nat.succ n))) = _
  simp only [qB_eq, qbeq]
theorem c_addn {N : Nat} {n : Nat} {xs ys : Nat → Int32} {sq li : Int64} {k : Int32} : a_fp_added N (zI (n : Int)) xs ys sq li (-1) k = some (-1) := by
  unfold a_fp_added
  rw [if_pos]
  unfold a_fp_has
  rw [if_pos (by decide)]
theorem c_ordn {fn : Nat} {xs ys : Nat → Int32} {sq li : Int64} {k : Int32} : ∀ (f o n : Nat), o + f = 13 → f < n → a_fp_orderOf_L5 (zI (fn : Int)) xs ys sq li k n (-1) (zI (o : Int)) = some (-1)
  | 0, o, n + 1, h, _ => by
    rw [a_fp_orderOf_L5, if_pos (by rw [show (12 : Int32) = zI ((12 : Nat) : Int) from rfl, kI_lt (by omega) (by omega)]; omega)]
  | f + 1, o, n + 1, h, hn => by
    rw [a_fp_orderOf_L5, if_neg (by rw [show (12 : Int32) = zI ((12 : Nat) : Int) from rfl, kI_lt (by omega) (by omega)]; omega), if_neg (by decide), c_addn, Option.bind_some, kI_s]
    exact c_ordn f (o + 1) n (by omega) (by omega)
theorem c_ord {A B : Int} {R : List (Int × Int)} {xs ys : Nat → Int32} {k : Nat} (hA : A.natAbs ≤ 100) (hB : B.natAbs ≤ 1000) (hR : R.length ≤ 31) (ha : qAr 1 R xs ys) (hr : qRg R) (hk : k ≤ R.length) : ∀ (f o m n : Nat), o + f = 13 → 1 ≤ o → f + 40 ≤ n → (m ≤ R.length ∨ m = 99) → a_fp_orderOf_L5 (zI ((R.length + 1 : Nat) : Int)) xs ys (zJ A) (zJ B) (zI (k : Int)) n (qi m) (zI (o : Int)) = some (qio (qoc A B R k f m o))
  | 0, o, m, n + 1, h, _, _, _ => by
    rw [a_fp_orderOf_L5, if_pos (by rw [show (12 : Int32) = zI ((12 : Nat) : Int) from rfl, kI_lt (by omega) (by omega)]; omega)]; rfl
  | f + 1, o, m, n + 1, h, h1, hn, hm => by
    rw [qoc_s]
    rcases hm with hm | hm
    · have e1 : qi m = zI (m : Int) := by rw [qi, if_neg (by omega)]
      rw [a_fp_orderOf_L5, if_neg (by rw [show (12 : Int32) = zI ((12 : Nat) : Int) from rfl, kI_lt (by omega) (by omega)]; omega), e1]
      by_cases h0 : m = 0
      · rw [if_pos (by rw [h0]; rfl), if_pos h0, qio, if_neg (by omega)]
      · rw [if_neg (by rw [show (0 : Int32) = zI ((0 : Nat) : Int) from rfl, kI_eq (by omega) (by omega)]; exact h0), if_neg h0, if_neg (by omega), c_sum hA hB hR ha hr (by omega) hm hk, Option.bind_some, kI_s]
        exact c_ord hA hB hR ha hr hk f (o + 1) _ n (by omega) (by omega) (by omega) (qsm_le hm hk)
    · rw [if_neg (by omega), if_pos hm, hm]
      exact c_ordn (f + 1) o (n + 1) h (by omega)
  | 0, _, _, 0, _, _, hn, _ => by omega
  | f + 1, _, _, 0, _, _, hn, _ => by omega
/-! the reference's order of a point -/
theorem qch_s (A B u v : Int) (f : Nat) (x y : Int) (n : Nat) : qch A B u v (f + 1) x y n = if (qadd A B x y u v).1 = 1 then (if (qadd A B x y u v).2.1.natAbs ≤ 5000 then (if (qadd A B x y u v).2.2.natAbs ≤ 4000000 then qch A B u v f (qadd A B x y u v).2.1 (qadd A B x y u v).2.2 (n + 1) else 99) else 0) else (if (qadd A B x y u v).1 = 0 then n + 1 else if (qadd A B x y u v).1 = 2 then 0 else 99) := by
  show qB (Nat.beq (qadd A B x y u v).1 1) (qB (Nat.ble (Int.natAbs (qadd A B x y u v).2.1) 5000) (qB (Nat.ble (Int.natAbs (qadd A B x y u v).2.2) 4000000) (qch A B u v f (qadd A B x y u v).2.1 (qadd A B x y u v).2.2 (Nat.succ n)) 99) 0) (qB (Nat.beq (qadd A B x y u v).1 0) (Nat.succ n) (qB (Nat.beq (qadd A B x y u v).1 2) 0 99)) = _
  simp only [qB_eq, qbeq, qble]
theorem y_takeE {mp : Nat} {m1 m2 : Int64} {pa pb po : Nat → Int32} {i1 i2 : Int32} {n : Nat} {w c : Int32} {sx sy : Int64} (hm : mp < 40) : a_md_take_L24 (zI (mp : Int)) m1 m2 pa pb po i1 i2 (n + 1) 1 w sx sy c = some (upd pa mp i1, upd pb mp i2, upd po mp c, zI ((mp + 1 : Nat) : Int), 1, w, sx, sy) := by
  have e1 : ¬ (1 : Int32) = 0 := by decide
  rw [a_md_take_L24]
  split
  · rw [if_neg (kI_bad (by omega) (by omega)), kI_nat (by omega), kI_s]
  · rw [if_neg (kI_bad (by omega) (by omega)), kI_nat (by omega), kI_s]
theorem y_takeF {mp : Int32} {m1 m2 : Int64} {pa pb po : Nat → Int32} {i1 i2 : Int32} {n : Nat} {c : Int32} {sx sy : Int64} : a_md_take_L24 mp m1 m2 pa pb po i1 i2 (n + 1) 0 0 sx sy c = some (pa, pb, po, mp, 0, 0, sx, sy) := by
  rw [a_md_take_L24]
  split
  · rw [if_pos rfl]
  · rw [if_pos rfl, if_pos rfl, if_pos rfl]
theorem y_take {A B u v : Int} {mp : Nat} {pa pb po : Nat → Int32} (hA : A.natAbs ≤ 100) (hB : B.natAbs ≤ 1000) (hu : u.natAbs ≤ 5000) (hv : v.natAbs ≤ 4000000) (hm : mp < 40) : ∀ (f c n : Nat) (x y : Int), c + f = 13 → f + 1 < n → x.natAbs ≤ 5000 → y.natAbs ≤ 4000000 → qch A B u v f x y c ≠ 99 → ∃ (mz mw : Int32) (mx my : Int64), a_md_take_L24 (zI (mp : Int)) (zJ A) (zJ B) pa pb po (zI u) (zI v) n 0 1 (zJ x) (zJ y) (zI (c : Int)) = some (if qch A B u v f x y c = 0 then (pa, pb, po, zI (mp : Int), mz, mw, mx, my) else (upd pa mp (zI u), upd pb mp (zI v), upd po mp (zI (qch A B u v f x y c : Int)), zI ((mp + 1 : Nat) : Int), mz, mw, mx, my))
  | 0, c, n + 1, x, y, h, _, _, _, _ => by
    refine ⟨0, 1, zJ x, zJ y, ?_⟩
    rw [a_md_take_L24, if_pos (by rw [show (13 : Int32) = zI ((13 : Nat) : Int) from rfl, kI_le (by omega) (by omega)]; omega), if_pos rfl]
    rfl
  | f + 1, c, n + 1, x, y, h, hn, hx, hy, hq => by
    have e1 : ¬ (1 : Int32) = 0 := by decide
    rw [qch_s] at hq
    have hs := qch_s A B u v f x y c
    rw [a_md_take_L24, if_neg (by rw [show (13 : Int32) = zI ((13 : Nat) : Int) from rfl, kI_le (by omega) (by omega)]; omega), if_pos rfl, if_neg e1, zI_long (by omega) (by omega), zI_long (by omega) (by omega), y_addq hA hB hx hu hy hv, yans]
    generalize qadd A B x y u v = r at hq hs
    obtain ⟨r1, z, w⟩ := r
    dsimp only at hq hs ⊢
    obtain ⟨n', rfl⟩ : ∃ n', n = n' + 1 := ⟨n - 1, by omega⟩
    by_cases h0 : r1 = 0
    · rw [if_pos h0, Option.bind_some]
      dsimp only
      rw [kI_s, y_takeE hm]
      rw [if_neg (by omega), if_pos h0] at hs
      rw [hs]
      exact ⟨_, _, _, _, by rw [if_neg (by omega)]⟩
    rw [if_neg h0]
    by_cases h1 : r1 = 1
    · rw [if_pos h1] at hq hs
      rw [if_pos h1]
      by_cases h2 : z.natAbs ≤ 5000
      · rw [if_pos h2] at hq hs
        by_cases h3 : w.natAbs ≤ 4000000
        · rw [if_pos h3] at hq hs
          rw [if_pos h2, Option.bind_some]
          dsimp only
          rw [kI_s, hs]
          exact y_take hA hB hu hv hm f (c + 1) (n' + 1) z w (by omega) (by omega) h2 h3 hq
        · rw [if_neg h3] at hq
          exact absurd rfl hq
      · rw [if_neg h2] at hs
        rw [if_neg h2, Option.bind_some]
        dsimp only
        rw [y_takeF, hs]
        exact ⟨_, _, _, _, by rw [if_pos rfl]⟩
    · rw [if_neg h1, if_neg h0] at hs hq
      rw [if_neg h1]
      by_cases h2 : r1 = 2
      · rw [if_pos h2] at hs
        rw [if_pos h2, Option.bind_some]
        dsimp only
        rw [y_takeF, hs]
        exact ⟨_, _, _, _, by rw [if_pos rfl]⟩
      · rw [if_neg h2] at hq
        exact absurd rfl hq
/-! the reference's sums by numbers -/
def qDs (K : List (Int × Int)) : Prop := ∀ k : Nat, k < K.length → qfnd (qnth K k).1 (qnth K k).2 K 1 = k + 1
def qCl (A B : Int) (K : List (Int × Int)) : Prop := ∀ j k : Nat, j ≤ K.length → k ≤ K.length → qsm A B K j k ≤ K.length
theorem r_sum {N : Nat} {A B : Int} {K : List (Int × Int)} {pa pb : Nat → Int32} {mz mw : Int32} {mx my : Int64} {j k : Nat} (hA : A.natAbs ≤ 100) (hB : B.natAbs ≤ 1000) (hR : K.length ≤ 31) (ha : qAr 1 K pa pb) (hr : qRg K) (hd : qDs K) (hc : qCl A B K) (hN : K.length < N) (hj : j ≤ K.length) (hk : k ≤ K.length) : ∃ (mz' mw' : Int32) (mx' my' : Int64), a_md_sumOf N (zI ((K.length + 1 : Nat) : Int)) mz mw (zJ A) (zJ B) mx my pa pb (zI (j : Int)) (zI (k : Int)) = some (zI (qsm A B K j k : Int), mz', mw', mx', my') := by
  have hcl := hc j k hj hk
  match k with
  | 0 =>
    unfold a_md_sumOf
    rw [if_pos (show zI ((0 : Nat) : Int) = 0 from rfl), qsm_1]
    exact ⟨_, _, _, _, rfl⟩
  | k + 1 =>
    have e2 : zI ((k + 1 : Nat) : Int) ≠ 0 := by rw [show (0 : Int32) = zI ((0 : Nat) : Int) from rfl, Ne, kI_eq (by omega) (by omega)]; omega
    obtain ⟨kx, ky⟩ := ha k (by omega)
    obtain ⟨rkx, rky⟩ := hr k (by omega)
    rw [Nat.add_comm 1] at kx ky
    unfold a_md_sumOf
    rw [if_neg e2]
    match j with
    | 0 =>
      rw [if_pos (show zI ((0 : Nat) : Int) = 0 from rfl), if_neg (kI_bad (by omega) (by omega)), if_neg (kI_bad (by omega) (by omega)), kI_nat (by omega : k + 1 ≤ 2147483647), y_add1, Option.bind_some]
      dsimp only
      rw [if_pos rfl, a_md_number, show (1 : Int32) = zI ((1 : Nat) : Int) from rfl, kx, ky, zI_long (by omega) (by omega), zI_long (by omega) (by omega), y_numr (by omega) (by omega) K 1 N (by omega) (by omega) (by congr 2; omega) ha hr hN, hd k (by omega), Option.bind_some, qsm_0, qio, if_neg (by omega)]
      exact ⟨_, _, _, _, rfl⟩
    | j + 1 =>
      have e1 : zI ((j + 1 : Nat) : Int) ≠ 0 := by rw [show (0 : Int32) = zI ((0 : Nat) : Int) from rfl, Ne, kI_eq (by omega) (by omega)]; omega
      obtain ⟨jx, jy⟩ := ha j (by omega)
      obtain ⟨rjx, rjy⟩ := hr j (by omega)
      rw [Nat.add_comm 1] at jx jy
      rw [if_neg e1, if_neg (kI_bad (by omega) (by omega)), if_neg (kI_bad (by omega) (by omega)), kI_nat (by omega : k + 1 ≤ 2147483647), kI_nat (by omega : j + 1 ≤ 2147483647), kx, ky, jx, jy, zI_long (by omega) (by omega), zI_long (by omega) (by omega), zI_long (by omega) (by omega), zI_long (by omega) (by omega), y_addq hA hB rjx rkx rjy rky]
      rw [qsm_2] at hcl ⊢
      have wz : (qadd A B (qnth K j).1 (qnth K j).2 (qnth K k).1 (qnth K k).2).2.1.natAbs ≤ 100000000000000000 ∧ ((qadd A B (qnth K j).1 (qnth K j).2 (qnth K k).1 (qnth K k).2).2.1.natAbs ≤ 5000 → (qadd A B (qnth K j).1 (qnth K j).2 (qnth K k).1 (qnth K k).2).2.2.natAbs ≤ 2000000000000) := by
        by_cases h : (qnth K j).1 = (qnth K k).1
        · by_cases h2 : (qnth K j).2 = -(qnth K k).2
          · rw [qadd_0 h h2]; exact ⟨by decide, fun _ => by decide⟩
          · rw [qadd_t h h2]; exact ⟨qdv_z hA rjx rkx (y_ab hA hB rjx), qdv_w rjx rjy (y_ab hA hB rjx)⟩
        · rw [qadd_c h]; exact ⟨qdv_z hA rjx rkx (by omega), qdv_w rjx rjy (by omega)⟩
      generalize qadd A B (qnth K j).1 (qnth K j).2 (qnth K k).1 (qnth K k).2 = r at hcl wz ⊢
      obtain ⟨r1, z, w⟩ := r
      obtain ⟨wz, ww⟩ := wz
      dsimp only at hcl wz ww ⊢
      unfold yans
      dsimp only
      by_cases h0 : r1 = 0
      · rw [if_pos h0, if_pos h0, Option.bind_some]
        dsimp only
        rw [if_neg (by decide)]
        exact ⟨_, _, _, _, rfl⟩
      rw [if_neg h0] at hcl ⊢
      rw [if_neg h0]
      by_cases h1 : r1 = 1
      · rw [if_pos h1] at hcl ⊢
        rw [if_pos h1]
        have hnum := y_numr (fn := zI ((K.length + 1 : Nat) : Int)) wz ww K 1 N (by omega) (by omega) (by congr 2; omega) ha hr hN
        have hnz : ¬ qfnd z w K 1 = 0 := by
          intro h
          rw [if_pos h] at hcl
          omega
        rw [if_neg hnz]
        split
        · rw [Option.bind_some]
          dsimp only
          rw [if_pos rfl, a_md_number, show (1 : Int32) = zI ((1 : Nat) : Int) from rfl, hnum, Option.bind_some, qio, if_neg hnz]
          exact ⟨_, _, _, _, rfl⟩
        · rw [Option.bind_some]
          dsimp only
          rw [if_pos rfl, a_md_number, show (1 : Int32) = zI ((1 : Nat) : Int) from rfl, hnum, Option.bind_some, qio, if_neg hnz]
          exact ⟨_, _, _, _, rfl⟩
      · rw [if_neg h1] at hcl
        omega
