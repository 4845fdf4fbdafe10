/-! remainders, multiples -/
theorem f_xorI (x y : Int32) : (0 : Int32) ≤ x ^^^ y ↔ (x.toInt < 0 ↔ y.toInt < 0) := by
  rw [Int32.le_iff_toBitVec_sle, Int32.toBitVec_xor]
  show BitVec.sle 0#32 (x.toBitVec ^^^ y.toBitVec) = true ↔ _
  rw [BitVec.zero_sle_eq_not_msb, BitVec.msb_xor, BitVec.msb_eq_toInt, BitVec.msb_eq_toInt]
  show _ ↔ (x.toBitVec.toInt < 0 ↔ y.toBitVec.toInt < 0)
  by_cases h1 : x.toBitVec.toInt < 0 <;> by_cases h2 : y.toBitVec.toInt < 0 <;> simp [h1, h2]
theorem f_xorJ (x y : Int64) : (0 : Int64) ≤ x ^^^ y ↔ (x.toInt < 0 ↔ y.toInt < 0) := by
  rw [Int64.le_iff_toBitVec_sle, Int64.toBitVec_xor]
  show BitVec.sle 0#64 (x.toBitVec ^^^ y.toBitVec) = true ↔ _
  rw [BitVec.zero_sle_eq_not_msb, BitVec.msb_xor, BitVec.msb_eq_toInt, BitVec.msb_eq_toInt]
  show _ ↔ (x.toBitVec.toInt < 0 ↔ y.toBitVec.toInt < 0)
  by_cases h1 : x.toBitVec.toInt < 0 <;> by_cases h2 : y.toBitVec.toInt < 0 <;> simp [h1, h2]
/-- the rest of a division, by the sign of what is divided -/
theorem f_tmod {n o : Int} (ho : 0 < o) : n % o = (if 0 ≤ n then n.tmod o else if n.tmod o = 0 then n.tmod o else n.tmod o + o) := by
  split
  · rename_i h
    rw [Int.tmod_eq_emod_of_nonneg h]
  · rename_i h
    have h1 : n.tmod o = -((-n) % o) := by
      rw [← Int.tmod_eq_emod_of_nonneg (show 0 ≤ -n by omega), Int.neg_tmod]; omega
    have h2 := Int.emod_nonneg (-n) (show o ≠ 0 by omega)
    have h3 := Int.emod_lt_of_pos (-n) ho
    have h4 : n % o = (-((-n) % o)) % o := by
      have e : n = -((-n) % o) + o * (-((-n) / o)) := by
        have := Int.emod_add_mul_ediv (-n) o
        have e2 : o * -((-n) / o) = - (o * ((-n) / o)) := Int.mul_neg _ _
        omega
      conv => lhs; rw [e]
      rw [Int.add_mul_emod_self_left]
    rw [h1, h4]
    split
    · rename_i h5
      rw [h5]; rfl
    · rename_i h5
      have e6 : -((-n) % o) % o = (-((-n) % o) + o) % o := by rw [Int.add_emod_right]
      rw [e6, Int.emod_eq_of_lt (by omega) (by omega)]
theorem f_modI {n o : Int} (h1 : -2147483648 ≤ n) (h2 : n ≤ 2147483647) (ho : 0 < o) (ho2 : o ≤ 2147483647) : a_ma_floorMod_IIx (zI n) (zI o) = some (zI (n % o)) := by
  have hr := tmod_rng (a := n) (b := o) (M := 2147483648) (by omega) (by omega)
  have hb := Int.tmod_lt_of_pos n ho
  have ex := f_xorI (zI n) (zI o)
  rw [zI_toInt h1 h2, zI_toInt (by omega) ho2] at ex
  have e0 : zI o ≠ 0 := by rw [show (0 : Int32) = zI 0 from rfl, Ne, zI_eq (by omega) ho2 (by omega) (by omega)]; omega
  unfold a_ma_floorMod_IIx
  rw [if_neg e0, zI_rem h1 h2 (by omega) ho2, f_tmod ho]
  by_cases h : 0 ≤ n
  · rw [if_pos (ex.mpr (by omega)), if_pos h]
  · have e1 : zI (n.tmod o) = 0 ↔ n.tmod o = 0 := by rw [show (0 : Int32) = zI 0 from rfl]; exact zI_eq (by omega) (by omega) (by omega) (by omega)
    rw [if_neg (fun q => by have := ex.mp q; omega), if_neg h]
    by_cases h0 : n.tmod o = 0
    · rw [if_pos (e1.mpr h0), if_pos h0]
    · rw [if_neg (fun q => h0 (e1.mp q)), if_neg h0, zI_add]
theorem f_modJ {n o : Int} (h1 : -9223372036854775807 ≤ n) (h2 : n ≤ 9223372036854775807) (ho : 0 < o) (ho2 : o ≤ 9223372036854775807) : a_ma_floorMod_JJx (zJ n) (zJ o) = some (zJ (n % o)) := by
  have hr := tmod_rng (a := n) (b := o) (M := 9223372036854775807) (by omega) (by omega)
  have hb := Int.tmod_lt_of_pos n ho
  have ex := f_xorJ (zJ n) (zJ o)
  rw [zJ_toInt (by omega) h2, zJ_toInt (by omega) ho2] at ex
  have e0 : zJ o ≠ 0 := by rw [show (0 : Int64) = zJ 0 from rfl, Ne, zJ_eq (by omega) ho2 (by omega) (by omega)]; omega
  unfold a_ma_floorMod_JJx
  rw [if_neg e0, zJ_rem (by omega) h2 (by omega) ho2, f_tmod ho]
  by_cases h : 0 ≤ n
  · rw [if_pos (ex.mpr (by omega)), if_pos h]
  · have e1 : zJ (n.tmod o) = 0 ↔ n.tmod o = 0 := by rw [show (0 : Int64) = zJ 0 from rfl]; exact zJ_eq (by omega) (by omega) (by omega) (by omega)
    rw [if_neg (fun q => by have := ex.mp q; omega), if_neg h]
    by_cases h0 : n.tmod o = 0
    · rw [if_pos (e1.mpr h0), if_pos h0]
    · rw [if_neg (fun q => h0 (e1.mp q)), if_neg h0, zJ_add]
/-! a curve's points, as both sides hold them -/
def qOa (k : Nat) (l : List Nat) (os : Nat → Int32) : Prop := ∀ i : Nat, i < l.length → os (k + i) = zI (l.getD i 0 : Int)
theorem qOa_t {k o : Nat} {l : List Nat} {os : Nat → Int32} (h : qOa k (o :: l) os) : qOa (k + 1) l os := fun i hi => by
  have := h (i + 1) (Nat.succ_lt_succ hi)
  rw [show k + (i + 1) = k + 1 + i by omega] at this
  exact this
theorem qOa_h {k o : Nat} {l : List Nat} {os : Nat → Int32} (h : qOa k (o :: l) os) : os k = zI (o : Int) := h 0 (Nat.succ_pos _)
/-- a good list of points: in range, all different, their sums among them, with their orders -/
def qGd (A B : Int) (K : List (Int × Int)) (O : List Nat) : Prop := A.natAbs ≤ 100 ∧ B.natAbs ≤ 1000 ∧ K.length ≤ 31 ∧ qRg K ∧ qDs K ∧ qCl A B K ∧ O.length = K.length + 1 ∧ (∀ o ∈ O, 1 ≤ o ∧ o ≤ 13) ∧ O.getD 0 0 = 1
def qSt (K : List (Int × Int)) (O : List Nat) (xs ys os : Nat → Int32) : Prop := qAr 1 K xs ys ∧ qOa 0 O os
theorem g_or {A B : Int} {K : List (Int × Int)} {O : List Nat} (h : qGd A B K O) {k : Nat} (hk : k ≤ K.length) : 1 ≤ O.getD k 0 ∧ O.getD k 0 ≤ 13 := by
  obtain ⟨_, _, _, _, _, _, hl, ho, _⟩ := h
  rw [List.getD_eq_getElem?_getD, List.getElem?_eq_getElem (by omega), Option.getD_some]
  exact ho _ (List.getElem_mem _)
theorem qmul_s (T : Nat → Nat → Nat) (k i : Nat) : qmul T k (i + 1) = T (qmul T k i) k := rfl
theorem qmul_le {A B : Int} {K : List (Int × Int)} {O : List Nat} (h : qGd A B K O) {k : Nat} (hk : k ≤ K.length) : ∀ i : Nat, qmul (qsm A B K) k i ≤ K.length
  | 0 => Nat.zero_le _
  | i + 1 => h.2.2.2.2.2.1 _ _ (qmul_le h hk i) hk
theorem g_sum {A B : Int} {K : List (Int × Int)} {O : List Nat} {xs ys os : Nat → Int32} (h : qGd A B K O) (hs : qSt K O xs ys os) {N j k : Nat} (hN : K.length < N) (hj : j ≤ K.length) (hk : k ≤ K.length) : a_fp_added N (zI ((K.length + 1 : Nat) : Int)) xs ys (zJ A) (zJ B) (zI (j : Int)) (zI (k : Int)) = some (zI (qsm A B K j k : Int)) := by
  obtain ⟨hA, hB, hR, hr, hd, hc, hl, ho, h0⟩ := h
  have := hc j k hj hk
  rw [c_sum hA hB hR hs.1 hr hN hj hk, qi, if_neg (by omega)]
theorem g_mul {A B : Int} {K : List (Int × Int)} {O : List Nat} {xs ys os : Nat → Int32} (h : qGd A B K O) (hs : qSt K O xs ys os) {k t : Nat} (hk : k ≤ K.length) (ht : t ≤ 1000) : ∀ (d i n : Nat), i + d = t → d + 50 ≤ n → a_fp_multiple_L41 (zI ((K.length + 1 : Nat) : Int)) xs ys (zJ A) (zJ B) (zI (k : Int)) n (zI (t : Int)) (zI (qmul (qsm A B K) k i : Int)) (zI (i : Int)) = some (zI (qmul (qsm A B K) k t : Int))
  | 0, i, n + 1, hi, _ => by
    rw [a_fp_multiple_L41, if_pos ((kI_le (by omega) (by omega)).mpr (by omega)), show t = i by omega]
  | d + 1, i, n + 1, hi, hn => by
    have hK := h.2.2.1
    rw [a_fp_multiple_L41, if_neg (by rw [kI_le (by omega) (by omega)]; omega), g_sum h hs (by omega) (qmul_le h hk i) hk, Option.bind_some, kI_s]
    exact g_mul h hs hk ht d (i + 1) n (by omega) (by omega)
  | 0, _, 0, _, hn => by omega
  | d + 1, _, 0, _, hn => by omega
theorem g_times {A B : Int} {K : List (Int × Int)} {O : List Nat} {xs ys os : Nat → Int32} (h : qGd A B K O) (hs : qSt K O xs ys os) {N k : Nat} {t : Int} (h1 : -2147483648 ≤ t) (h2 : t ≤ 2147483647) (hk : k ≤ K.length) (hN : 100 ≤ N) : a_fp_multiple N (zI ((K.length + 1 : Nat) : Int)) xs ys os (zJ A) (zJ B) (zI t) (zI (k : Int)) = some (zI (qmul (qsm A B K) k (t % (O.getD k 0 : Int)).toNat : Int)) := by
  have hK := h.2.2.1
  have hl := h.2.2.2.2.2.2.1
  obtain ⟨o1, o2⟩ := g_or h hk
  have hok := hs.2 k (by omega)
  rw [Nat.zero_add] at hok
  have e0 := Int.emod_nonneg t (show (O.getD k 0 : Int) ≠ 0 by omega)
  have e1 := Int.emod_lt_of_pos t (show 0 < (O.getD k 0 : Int) by omega)
  unfold a_fp_multiple
  rw [y_has (by omega) (by omega), if_neg (by decide), if_neg (kI_bad (by omega) (by omega)), kI_nat (by omega), hok, if_neg (by rw [show (0 : Int32) = zI ((0 : Nat) : Int) from rfl, kI_le (by omega) (by omega)]; omega), f_modI h1 h2 (by omega) (by omega), Option.bind_some]
  have := g_mul h hs hk (t := (t % (O.getD k 0 : Int)).toNat) (by omega) (t % (O.getD k 0 : Int)).toNat 0 N (by omega) (by omega)
  rw [show ((t % (O.getD k 0 : Int)).toNat : Int) = t % (O.getD k 0 : Int) from Int.toNat_of_nonneg e0] at this
  exact this
theorem g_sumr {A B : Int} {K : List (Int × Int)} {O : List Nat} {xs ys os : Nat → Int32} (h : qGd A B K O) (hs : qSt K O xs ys os) {N j k : Nat} {mz mw : Int32} {mx my : Int64} (hN : K.length < N) (hj : j ≤ K.length) (hk : k ≤ K.length) : ∃ (mz' mw' : Int32) (mx' my' : Int64), a_md_sumOf N (zI ((K.length + 1 : Nat) : Int)) mz mw (zJ A) (zJ B) mx my xs ys (zI (j : Int)) (zI (k : Int)) = some (zI (qsm A B K j k : Int), mz', mw', mx', my') := by
  obtain ⟨hA, hB, hR, hr, hd, hc, hl, ho, h0⟩ := h
  exact r_sum hA hB hR hs.1 hr hd hc hN hj hk
theorem g_mulr {A B : Int} {K : List (Int × Int)} {O : List Nat} {xs ys os : Nat → Int32} (h : qGd A B K O) (hs : qSt K O xs ys os) {k t : Nat} (hk : k ≤ K.length) (ht : t ≤ 1000) : ∀ (d i n : Nat) (mz mw : Int32) (mx my : Int64), i + d = t → d + 50 ≤ n → ∃ (mz' mw' : Int32) (mx' my' : Int64), a_md_multiple_L5 (zI ((K.length + 1 : Nat) : Int)) (zJ A) (zJ B) xs ys (zI (t : Int)) (zI (k : Int)) n mz mw mx my (zI (qmul (qsm A B K) k i : Int)) (zI (i : Int)) = some (zI (qmul (qsm A B K) k t : Int), mz', mw', mx', my')
  | 0, i, n + 1, mz, mw, mx, my, hi, _ => by
    rw [a_md_multiple_L5, if_pos ((kI_le (by omega) (by omega)).mpr (by omega)), show t = i by omega]
    exact ⟨_, _, _, _, rfl⟩
  | d + 1, i, n + 1, mz, mw, mx, my, hi, hn => by
    have hK := h.2.2.1
    obtain ⟨z1, w1, x1, y1, e⟩ := g_sumr h hs (N := n) (mz := mz) (mw := mw) (mx := mx) (my := my) (by omega) (qmul_le h hk i) hk
    rw [a_md_multiple_L5, if_neg (by rw [kI_le (by omega) (by omega)]; omega), e, Option.bind_some]
    dsimp only
    rw [kI_s]
    exact g_mulr h hs hk ht d (i + 1) n _ _ _ _ (by omega) (by omega)
  | 0, _, 0, _, _, _, _, _, hn => by omega
  | d + 1, _, 0, _, _, _, _, _, hn => by omega
