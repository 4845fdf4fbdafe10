/-! the class's sums by numbers in a list are the check's -/
def qio (i : Nat) : Int32 := if i = 0 then -1 else zI (i : Int)
def qi (i : Nat) : Int32 := if i = 99 then -1 else zI (i : Int)
def qAr (k : Nat) (l : List (Int × Int)) (xs ys : Nat → Int32) : Prop := ∀ i : Nat, i < l.length → xs (k + i) = zI (qnth l i).1 ∧ ys (k + i) = zI (qnth l i).2
def qRg (l : List (Int × Int)) : Prop := ∀ i : Nat, i < l.length → (qnth l i).1.natAbs ≤ 5000 ∧ (qnth l i).2.natAbs ≤ 4000000
theorem qnth_0 (p : Int × Int) (l : List (Int × Int)) : qnth (p :: l) 0 = p := rfl
theorem qnth_s (p : Int × Int) (l : List (Int × Int)) (i : Nat) : qnth (p :: l) (i + 1) = qnth l i := rfl
theorem qfnd_c (z w : Int) (p : Int × Int) (l : List (Int × Int)) (i : Nat) : qfnd z w (p :: l) i = if p.1 = z then (if p.2 = w then i else qfnd z w l (i + 1)) else qfnd z w l (i + 1) := by
  show qB (qieq p.1 z) (qB (qieq p.2 w) i (qfnd z w l (Nat.succ i))) (qfnd z w l (Nat.succ i)) = _
  rw [qB_eq, qB_eq]
  simp only [qieq_iff]
theorem qfnd_le (z w : Int) : ∀ (l : List (Int × Int)) (i : Nat), qfnd z w l i = 0 ∨ (i ≤ qfnd z w l i ∧ qfnd z w l i < i + l.length)
  | [], _ => Or.inl rfl
  | p :: l, i => by
    have h := qfnd_le z w l (i + 1)
    have hl : (p :: l).length = l.length + 1 := rfl
    rw [qfnd_c]
    split
    · split
      · exact Or.inr ⟨Nat.le_refl _, by omega⟩
      · omega
    · omega
theorem qAr_t {k : Nat} {p : Int × Int} {l : List (Int × Int)} {xs ys : Nat → Int32} (h : qAr k (p :: l) xs ys) : qAr (k + 1) l xs ys := fun i hi => by
  have := h (i + 1) (Nat.succ_lt_succ hi)
  rw [show k + (i + 1) = k + 1 + i by omega] at this
  exact this
theorem qAr_h {k : Nat} {p : Int × Int} {l : List (Int × Int)} {xs ys : Nat → Int32} (h : qAr k (p :: l) xs ys) : xs k = zI p.1 ∧ ys k = zI p.2 := h 0 (Nat.succ_pos _)
theorem qRg_t {p : Int × Int} {l : List (Int × Int)} (h : qRg (p :: l)) : qRg l := fun i hi => h (i + 1) (Nat.succ_lt_succ hi)
theorem qRg_h {p : Int × Int} {l : List (Int × Int)} (h : qRg (p :: l)) : p.1.natAbs ≤ 5000 ∧ p.2.natAbs ≤ 4000000 := h 0 (Nat.succ_pos _)
theorem y_num {z w : Int} {fn : Int32} {xs ys : Nat → Int32} (hz : z.natAbs ≤ 100000000000000000) (hw : z.natAbs ≤ 5000 → w.natAbs ≤ 2000000000000) : ∀ (l : List (Int × Int)) (k n : Nat), 1 ≤ k → k + l.length ≤ 32 → fn = zI ((k + l.length : Nat) : Int) → qAr k l xs ys → qRg l → l.length < n → a_fp_numberOf_L3 fn xs ys (zJ z) (zJ w) n (zI (k : Int)) = some (qio (qfnd z w l k))
  | [], k, n + 1, h1, h2, hf, _, _, _ => by
    rw [a_fp_numberOf_L3, if_pos (by rw [hf]; exact (kI_le (by simp at h2 ⊢; omega) (by simp at h2 ⊢; omega)).mpr (by simp))]; rfl
  | p :: l, k, n + 1, h1, h2, hf, ha, hr, hn => by
    have hl : (p :: l).length = l.length + 1 := rfl
    obtain ⟨ax, ay⟩ := qAr_h ha
    obtain ⟨rx, ry⟩ := qRg_h hr
    have ih := y_num (fn := fn) (xs := xs) (ys := ys) hz hw l (k + 1) n (by omega) (by omega) (by rw [hf, hl]; congr 2; omega) (qAr_t ha) (qRg_t hr) (by omega)
    rw [a_fp_numberOf_L3, if_neg (by rw [hf, kI_le (by omega) (by omega)]; omega), if_neg (kI_bad (by omega) (by omega)), kI_nat (by omega), ax, ay, zI_long (by omega) (by omega), zI_long (by omega) (by omega), kI_s, ih, qfnd_c]
    have e1 : zJ p.1 = zJ z ↔ p.1 = z := zJ_eq (by omega) (by omega) (by omega) (by omega)
    by_cases h : p.1 = z
    · have hw' := hw (by omega)
      have e2 : zJ p.2 = zJ w ↔ p.2 = w := zJ_eq (by omega) (by omega) (by omega) (by omega)
      rw [if_pos (e1.mpr h), if_pos h]
      by_cases h3 : p.2 = w
      · rw [if_pos (e2.mpr h3), if_pos h3, qio, if_neg (by omega)]
      · rw [if_neg (fun q => h3 (e2.mp q)), if_neg h3]
    · rw [if_neg (fun q => h (e1.mp q)), if_neg h]
theorem y_numr {z w : Int} {fn : Int32} {xs ys : Nat → Int32} (hz : z.natAbs ≤ 100000000000000000) (hw : z.natAbs ≤ 5000 → w.natAbs ≤ 2000000000000) : ∀ (l : List (Int × Int)) (k n : Nat), 1 ≤ k → k + l.length ≤ 40 → fn = zI ((k + l.length : Nat) : Int) → qAr k l xs ys → qRg l → l.length < n → a_md_number_L3 fn xs ys (zJ z) (zJ w) n (zI (k : Int)) = some (qio (qfnd z w l k))
  | [], k, n + 1, h1, h2, hf, _, _, _ => by
    rw [a_md_number_L3, if_pos (by rw [hf]; exact (kI_le (by simp at h2 ⊢; omega) (by simp at h2 ⊢; omega)).mpr (by simp))]; rfl
  | p :: l, k, n + 1, h1, h2, hf, ha, hr, hn => by
    have hl : (p :: l).length = l.length + 1 := rfl
    obtain ⟨ax, ay⟩ := qAr_h ha
    obtain ⟨rx, ry⟩ := qRg_h hr
    have ih := y_numr (fn := fn) (xs := xs) (ys := ys) hz hw l (k + 1) n (by omega) (by omega) (by rw [hf, hl]; congr 2; omega) (qAr_t ha) (qRg_t hr) (by omega)
    rw [a_md_number_L3, if_neg (by rw [hf, kI_le (by omega) (by omega)]; omega), if_neg (kI_bad (by omega) (by omega)), kI_nat (by omega), ax, ay, zI_long (by omega) (by omega), zI_long (by omega) (by omega), kI_s, ih, qfnd_c]
    have e1 : zJ p.1 = zJ z ↔ p.1 = z := zJ_eq (by omega) (by omega) (by omega) (by omega)
    by_cases h : p.1 = z
    · have hw' := hw (by omega)
      have e2 : zJ p.2 = zJ w ↔ p.2 = w := zJ_eq (by omega) (by omega) (by omega) (by omega)
      rw [if_pos (e1.mpr h), if_pos h]
      by_cases h3 : p.2 = w
      · rw [if_pos (e2.mpr h3), if_pos h3, qio, if_neg (by omega)]
      · rw [if_neg (fun q => h3 (e2.mp q)), if_neg h3]
    · rw [if_neg (fun q => h (e1.mp q)), if_neg h]
def cst (N : Nat) (fn : Int32) (xs ys : Nat → Int32) (m1 x y u AB BE : Int64) : Option Int32 :=
  if BE = 0 then some (-1) else if BE = 0 then none else if AB - AB / BE * BE = 0 then ((a_fp_numberOf N fn xs ys (AB / BE * (AB / BE) - m1 - x - u) (-(y + AB / BE * (AB / BE * (AB / BE) - m1 - x - u - x)))).bind (fun r => some r)) else some (-1)
theorem y_has {n k : Nat} (h1 : n ≤ 2147483647) (h2 : k < n) : a_fp_has (zI (n : Int)) (zI (k : Int)) = 1 := by
  unfold a_fp_has
  rw [if_neg (kI_neg (by omega)), if_neg (by rw [kI_le (by omega) (by omega)]; omega)]
theorem c_add {N : Nat} {xs ys : Nat → Int32} {sq li : Int64} {n j k : Nat} (h1 : n ≤ 32) (hj0 : 0 < j) (hk0 : 0 < k) (hj : j < n) (hk : k < n) : a_fp_added N (zI (n : Int)) xs ys sq li (zI (j : Int)) (zI (k : Int)) = if (xs k).toInt64 = (xs j).toInt64 then (if (ys k).toInt64 = -(ys j).toInt64 then some 0 else cst N (zI (n : Int)) xs ys sq (xs j).toInt64 (ys j).toInt64 (xs k).toInt64 (a_cu_steepnessAt sq li (xs j).toInt64) (2 * (ys j).toInt64)) else cst N (zI (n : Int)) xs ys sq (xs j).toInt64 (ys j).toInt64 (xs k).toInt64 ((ys k).toInt64 - (ys j).toInt64) ((xs k).toInt64 - (xs j).toInt64) := by
  have e1 : zI (j : Int) ≠ 0 := by rw [show (0 : Int32) = zI ((0 : Nat) : Int) from rfl, Ne, kI_eq (by omega) (by omega)]; omega
  have e2 : zI (k : Int) ≠ 0 := by rw [show (0 : Int32) = zI ((0 : Nat) : Int) from rfl, Ne, kI_eq (by omega) (by omega)]; omega
  unfold a_fp_added
  rw [y_has (by omega) hj, y_has (by omega) hk, if_neg (by decide), if_neg (by decide), if_neg e1, if_neg e2, if_neg (kI_bad (by omega) (by omega)), if_neg (kI_bad (by omega) (by omega)), kI_nat (by omega), kI_nat (by omega)]
  rfl
theorem c_st {N : Nat} {A x y u ab be : Int} {R : List (Int × Int)} {xs ys : Nat → Int32} (hA : A.natAbs ≤ 100) (hx : x.natAbs ≤ 5000) (hu : u.natAbs ≤ 5000) (hy : y.natAbs ≤ 4000000) (hab : ab.natAbs ≤ 100000000) (hbe : be.natAbs ≤ 100000000) (hR : R.length ≤ 31) (ha : qAr 1 R xs ys) (hr : qRg R) (hN : R.length < N) : cst N (zI ((R.length + 1 : Nat) : Int)) xs ys (zJ A) (zJ x) (zJ y) (zJ u) (zJ ab) (zJ be) = some (if (qdv A x y u ab be).1 = 1 then qio (qfnd (qdv A x y u ab be).2.1 (qdv A x y u ab be).2.2 R 1) else -1) := by
  have e0 : zJ be = zJ 0 ↔ be = 0 := zJ_eq (by omega) (by omega) (by omega) (by omega)
  have e1 := zJ_rem0 (a := ab) (b := be) (by omega) (by omega) (by omega) (by omega)
  have wz := qdv_z (A := A) (x := x) (y := y) (u := u) (ab := ab) (be := be) hA hx hu hab
  have ww := qdv_w (A := A) (x := x) (y := y) (u := u) (ab := ab) (be := be) hx hy hab
  unfold cst
  rw [show (0 : Int64) = zJ 0 from rfl]
  by_cases h0 : be = 0
  · rw [if_pos (e0.mpr h0), qdv_3 h0]; rfl
  rw [if_neg (fun h => h0 (e0.mp h)), if_neg (fun h => h0 (e0.mp h))]
  by_cases hd : be ∣ ab
  · rw [qdv_1 h0 hd] at wz ww ⊢
    rw [if_pos (e1.mpr hd), zJ_div (by omega) (by omega) (by omega) (by omega)]
    simp only [zJ_mul, zJ_sub, zJ_add, zJ_neg]
    dsimp only at wz ww
    rw [a_fp_numberOf, show (1 : Int32) = zI ((1 : Nat) : Int) from rfl, y_num wz ww R 1 N (by omega) (by omega) (by congr 2; omega) ha hr hN]
    rfl
  · rw [if_neg (fun h => hd (e1.mp h)), qdv_2 h0 hd]; rfl
theorem qsm_0 (A B : Int) (R : List (Int × Int)) (k : Nat) : qsm A B R 0 k = k := rfl
theorem qsm_1 (A B : Int) (R : List (Int × Int)) (j : Nat) : qsm A B R j 0 = j := by cases j <;> rfl
theorem qsm_2 (A B : Int) (R : List (Int × Int)) (j k : Nat) : qsm A B R (j + 1) (k + 1) = (if (qadd A B (qnth R j).1 (qnth R j).2 (qnth R k).1 (qnth R k).2).1 = 0 then 0 else if (qadd A B (qnth R j).1 (qnth R j).2 (qnth R k).1 (qnth R k).2).1 = 1 then (if qfnd (qadd A B (qnth R j).1 (qnth R j).2 (qnth R k).1 (qnth R k).2).2.1 (qadd A B (qnth R j).1 (qnth R j).2 (qnth R k).1 (qnth R k).2).2.2 R 1 = 0 then 99 else qfnd (qadd A B (qnth R j).1 (qnth R j).2 (qnth R k).1 (qnth R k).2).2.1 (qadd A B (qnth R j).1 (qnth R j).2 (qnth R k).1 (qnth R k).2).2.2 R 1) else 99) := by
  show qB (Nat.beq (qadd A B (qnth R j).1 (qnth R j).2 (qnth R k).1 (qnth R k).2).1 0) 0 (qB (Nat.beq (qadd A B (qnth R j).1 (qnth R j).2 (qnth R k).1 (qnth R k).2).1 1) (qB (Nat.beq (qfnd (qadd A B (qnth R j).1 (qnth R j).2 (qnth R k).1 (qnth R k).2).2.1 (qadd A B (qnth R j).1 (qnth R j).2 (qnth R k).1 (qnth R k).2).2.2 R 1) 0) 99 (qfnd (qadd A B (qnth R j).1 (qnth R j).2 (qnth R k).1 (qnth R k).2).2.1 (qadd A B (qnth R j).1 (qnth R j).2 (qnth R k).1 (qnth R k).2).2.2 R 1)) 99) = _
  simp only [qB_eq, qbeq]
theorem qsm_le {A B : Int} {R : List (Int × Int)} {j k : Nat} (hj : j ≤ R.length) (hk : k ≤ R.length) : qsm A B R j k ≤ R.length ∨ qsm A B R j k = 99 := by
  match j, k with
  | 0, k => exact Or.inl hk
  | j, 0 => rw [qsm_1]; exact Or.inl hj
  | j + 1, k + 1 =>
    rw [qsm_2]
    split
    · exact Or.inl (Nat.zero_le _)
    · split
      · split
        · exact Or.inr rfl
        · rename_i h
          rcases qfnd_le (qadd A B (qnth R j).1 (qnth R j).2 (qnth R k).1 (qnth R k).2).2.1 (qadd A B (qnth R j).1 (qnth R j).2 (qnth R k).1 (qnth R k).2).2.2 R 1 with h2 | h2
          · exact absurd h2 h
          · left; omega
      · exact Or.inr rfl
theorem c_sum {N : Nat} {A B : Int} {R : List (Int × Int)} {xs ys : Nat → Int32} {j k : Nat} (hA : A.natAbs ≤ 100) (hB : B.natAbs ≤ 1000) (hR : R.length ≤ 31) (ha : qAr 1 R xs ys) (hr : qRg R) (hN : R.length < N) (hj : j ≤ R.length) (hk : k ≤ R.length) : a_fp_added N (zI ((R.length + 1 : Nat) : Int)) xs ys (zJ A) (zJ B) (zI (j : Int)) (zI (k : Int)) = some (qi (qsm A B R j k)) := by
  match j, k with
  | 0, k =>
    unfold a_fp_added
    rw [y_has (by omega) (by omega), y_has (by omega) (by omega), if_neg (by decide), if_neg (by decide), if_pos (show zI ((0 : Nat) : Int) = 0 from rfl), qsm_0, qi, if_neg (by omega), zI_add]
    congr 2; omega
  | j + 1, 0 =>
    have e1 : zI ((j + 1 : Nat) : Int) ≠ 0 := by rw [show (0 : Int32) = zI ((0 : Nat) : Int) from rfl, Ne, kI_eq (by omega) (by omega)]; omega
    unfold a_fp_added
    rw [y_has (by omega) (by omega), y_has (by omega) (by omega), if_neg (by decide), if_neg (by decide), if_neg e1, if_pos (show zI ((0 : Nat) : Int) = 0 from rfl), qsm_1, qi, if_neg (by omega), zI_add]
    congr 2
  | j + 1, k + 1 =>
    obtain ⟨jx, jy⟩ := ha j (by omega)
    obtain ⟨kx, ky⟩ := ha k (by omega)
    obtain ⟨rjx, rjy⟩ := hr j (by omega)
    obtain ⟨rkx, rky⟩ := hr k (by omega)
    rw [Nat.add_comm 1] at jx jy kx ky
    rw [c_add (by omega) (by omega) (by omega) (by omega) (by omega), jx, jy, kx, ky, zI_long (by omega) (by omega), zI_long (by omega) (by omega), zI_long (by omega) (by omega), zI_long (by omega) (by omega), qsm_2]
    generalize qnth R j = p at *
    generalize qnth R k = q at *
    have e0 : zJ q.1 = zJ p.1 ↔ p.1 = q.1 := by rw [zJ_eq (by omega) (by omega) (by omega) (by omega)]; omega
    have e1 : zJ q.2 = - zJ p.2 ↔ p.2 = -q.2 := by rw [zJ_neg, zJ_eq (by omega) (by omega) (by omega) (by omega)]; omega
    have hq : ∀ r : Nat × Int × Int, r.1 ≠ 0 → (if r.1 = 1 then qio (qfnd r.2.1 r.2.2 R 1) else -1) = qi (if r.1 = 0 then 0 else if r.1 = 1 then (if qfnd r.2.1 r.2.2 R 1 = 0 then 99 else qfnd r.2.1 r.2.2 R 1) else 99) := by
      intro r h0
      rw [if_neg h0]
      by_cases h1 : r.1 = 1
      · rw [if_pos h1, if_pos h1, qio]
        by_cases h2 : qfnd r.2.1 r.2.2 R 1 = 0
        · rw [if_pos h2, if_pos h2]; rfl
        · rw [if_neg h2, if_neg h2, qi, if_neg]
          have := qfnd_le r.2.1 r.2.2 R 1
          omega
      · rw [if_neg h1, if_neg h1]; rfl
    have hd : ∀ ab be : Int, (qdv A p.1 p.2 q.1 ab be).1 ≠ 0 := by
      intro ab be
      by_cases h0 : be = 0
      · rw [qdv_3 h0]; decide
      · by_cases h1 : be ∣ ab
        · rw [qdv_1 h0 h1]; exact Nat.one_ne_zero
        · rw [qdv_2 h0 h1]; decide
    by_cases h : p.1 = q.1
    · rw [if_pos (e0.mpr h)]
      by_cases h2 : p.2 = -q.2
      · rw [if_pos (e1.mpr h2), qadd_0 h h2]; rfl
      · rw [if_neg (fun q => h2 (e1.mp q)), qadd_t h h2, a_cu_steepnessAt, show (3 : Int64) = zJ 3 from rfl, show (2 : Int64) = zJ 2 from rfl]
        simp only [zJ_mul, zJ_add]
        rw [c_st hA rjx rkx rjy (y_ab hA hB rjx) (by omega) hR ha hr hN, hq _ (hd _ _)]
    · rw [if_neg (fun q => h (e0.mp q)), qadd_c h, zJ_sub, zJ_sub, c_st hA rjx rkx rjy (by omega) (by omega) hR ha hr hN, hq _ (hd _ _)]
