/-! points modulo a prime -/
def sqc (p v : Nat) : Nat → Nat
  | 0 => 0
  | y + 1 => sqc p v y + (if y * y % p = v then 1 else 0)
theorem sqc_s (p v y : Nat) : sqc p v (y + 1) = sqc p v y + (if y * y % p = v then 1 else 0) := rfl
theorem sqc_le (p v : Nat) : ∀ m : Nat, sqc p v m ≤ m
  | 0 => Nat.le_refl 0
  | m + 1 => by
    have := sqc_le p v m
    rw [sqc_s]
    split <;> omega
def gmd (A B C : Int) (p x : Nat) : Nat := (zG A B C x % (p : Int)).toNat
theorem gmd_e {A B C : Int} {p : Nat} (x : Nat) (hp : 1 ≤ p) : zG A B C x % (p : Int) = (gmd A B C p x : Int) ∧ gmd A B C p x < p := by
  have h1 := Int.emod_nonneg (zG A B C x) (show (p : Int) ≠ 0 by omega)
  have h2 := Int.emod_lt_of_pos (zG A B C x) (show (0 : Int) < p by omega)
  unfold gmd
  generalize zG A B C x % (p : Int) = r at h1 h2 ⊢
  omega
def tot (A B C : Int) (p : Nat) : Nat → Nat
  | 0 => 1
  | x + 1 => tot A B C p x + sqc p (gmd A B C p x) p
theorem tot_s (A B C : Int) (p x : Nat) : tot A B C p (x + 1) = tot A B C p x + sqc p (gmd A B C p x) p := rfl
theorem tot_le (A B C : Int) {p : Nat} (hp : p ≤ 97) : ∀ m : Nat, tot A B C p m ≤ 1 + 97 * m
  | 0 => Nat.le_refl 1
  | m + 1 => by
    have h1 := tot_le A B C hp m
    have h2 := sqc_le p (gmd A B C p m) p
    rw [tot_s]
    omega
theorem kI_mod {a b : Nat} (h1 : a ≤ 2147483647) (h2 : b ≤ 2147483647) : zI (a : Int) - zI (a : Int) / zI (b : Int) * zI (b : Int) = zI ((a % b : Nat) : Int) := by
  rw [zI_rem (by omega) (by omega) (by omega) (by omega), ← Int.ofNat_tmod]
theorem kI_mul (a b : Nat) : zI (a : Int) * zI (b : Int) = zI ((a * b : Nat) : Int) := by rw [zI_mul]; rfl
theorem kI_add (a b : Nat) : zI (a : Int) + zI (b : Int) = zI ((a + b : Nat) : Int) := by rw [zI_add]; rfl
theorem kI_0 {p : Nat} (h0 : 1 ≤ p) (h : p ≤ 2147483647) : ¬ zI (p : Int) = 0 := by
  rw [show (0 : Int32) = zI ((0 : Nat) : Int) from rfl, kI_eq (by omega) (by omega)]; omega
theorem kJ_0 {p : Nat} (h0 : 1 ≤ p) (h : p ≤ 2147483647) : ¬ (zI (p : Int)).toInt64 = 0 := by
  rw [zI_long (by omega) (by omega), show (0 : Int64) = zJ ((0 : Nat) : Int) from rfl, kJ_eq (by omega) (by omega)]; omega
theorem n_fill : ∀ (m k n : Nat) (a : Nat → Int32), k + m = 97 → m < n → (∀ i, i < k → a i = 0) → ∃ a', a_ar_fill_L5 0 n a (zI (k : Int)) = some a' ∧ ∀ i, i < 97 → a' i = 0
  | 0, k, n + 1, a, hk, _, ha => ⟨a, by rw [a_ar_fill_L5, if_pos (by rw [show (97 : Int32) = zI ((97 : Nat) : Int) from rfl, kI_le (by omega) (by omega)]; omega)], fun i hi => ha i (by omega)⟩
  | m + 1, k, n + 1, a, hk, hn, ha => by
    obtain ⟨a', h1, h2⟩ := n_fill m (k + 1) n (upd a k 0) (by omega) (by omega) (fun i hi => by
      unfold upd
      by_cases e : i = k
      · rw [if_pos e]
      · rw [if_neg e]; exact ha i (by omega))
    refine ⟨a', ?_, h2⟩
    rw [a_ar_fill_L5, if_neg (by rw [show (97 : Int32) = zI ((97 : Nat) : Int) from rfl, kI_le (by omega) (by omega)]; omega), if_neg (kI_bad (by omega) (by omega)), kI_nat (by omega), kI_s]
    exact h1
theorem n_sq {A B C : Int} {p : Nat} (hp : 1 ≤ p) (hp2 : p ≤ 97) : ∀ (m k n : Nat) (a : Nat → Int32), k + m = p → m + 200 ≤ n → (∀ v, v < 97 → a v = zI (sqc p v k : Int)) → ∃ (a' : Nat → Int32) (n' : Nat), 150 ≤ n' ∧ (∀ v, v < 97 → a' v = zI (sqc p v p : Int)) ∧ a_cu_countFor_L23 (zJ A) (zJ B) (zJ C) (zI (p : Int)) n a (zI (k : Int)) = a_cu_countFor_L52 (zJ A) (zJ B) (zJ C) (zI (p : Int)) n' a' 1 0
  | 0, k, n + 1, a, hk, hn, ha => by
    have e : k = p := by omega
    subst e
    exact ⟨a, n, by omega, ha, by rw [a_cu_countFor_L23, if_pos ((kI_le (by omega) (by omega)).mpr (Nat.le_refl _))]⟩
  | m + 1, k, n + 1, a, hk, hn, ha => by
    have hkk : k * k ≤ 97 * 97 := sq_b (by omega)
    have hm : k * k % p < p := Nat.mod_lt _ (by omega)
    obtain ⟨a', n', h1, h2, h3⟩ := n_sq (A := A) (B := B) (C := C) hp hp2 m (k + 1) n (upd a (k * k % p) (a (k * k % p) + 1)) (by omega) (by omega) (fun v hv => by
      rw [sqc_s]
      unfold upd
      by_cases e : v = k * k % p
      · rw [if_pos e, if_pos e.symm, ← e, ha v hv, kI_s]
      · rw [if_neg e, if_neg (fun q => e q.symm), Nat.add_zero]; exact ha v hv)
    refine ⟨a', n', h1, h2, ?_⟩
    rw [a_cu_countFor_L23, if_neg (by rw [kI_le (by omega) (by omega)]; omega), if_neg (kI_0 (by omega) (by omega)), kI_mul, kI_mod (by omega) (by omega), if_neg (kI_bad (by omega) (by omega)), kI_nat (by omega), kI_s k]
    exact h3
theorem n_cnt {A B C : Int} {p : Nat} (hR : zR A B C) (hp : 1 ≤ p) (hp2 : p ≤ 97) {a : Nat → Int32} (ha : ∀ v, v < 97 → a v = zI (sqc p v p : Int)) : ∀ (m k n : Nat), k + m = p → m < n → a_cu_countFor_L52 (zJ A) (zJ B) (zJ C) (zI (p : Int)) n a (zI (tot A B C p k : Int)) (zI (k : Int)) = some (zI (tot A B C p p : Int), a)
  | 0, k, n + 1, hk, _ => by
    have e : k = p := by omega
    rw [a_cu_countFor_L52, if_pos ((kI_le (by omega) (by omega)).mpr (by omega)), e]
  | m + 1, k, n + 1, hk, hn => by
    have hb := zG_b (x := (k : Int)) hR (by omega) (by omega)
    obtain ⟨g1, g2⟩ := gmd_e (A := A) (B := B) (C := C) (p := p) k hp
    rw [a_cu_countFor_L52, if_neg (by rw [kI_le (by omega) (by omega)]; omega), c_val (by omega) (by omega), zI_long (by omega) (by omega), f_modJ (by omega) (by omega) (by omega) (by omega), g1]
    show (if (zJ (gmd A B C p k : Int)).toInt32 < 0 ∨ 97 ≤ (zJ (gmd A B C p k : Int)).toInt32.toNatClampNeg then none else a_cu_countFor_L52 (zJ A) (zJ B) (zJ C) (zI (p : Int)) n a (zI (tot A B C p k : Int) + a (zJ (gmd A B C p k : Int)).toInt32.toNatClampNeg) (zI (k : Int) + 1)) = _
    rw [zJ_int, if_neg (kI_bad (by omega) (by omega)), kI_nat (by omega), ha _ (by omega), kI_add, kI_s, ← tot_s]
    exact n_cnt hR hp hp2 ha m (k + 1) n (by omega) (by omega)
theorem c_count {A B C : Int} {p N : Nat} {rc : Nat → Int32} (hR : zR A B C) (hp : 1 ≤ p) (hp2 : p ≤ 97) (hN : 500 ≤ N) : ∃ rc', a_cu_countFor N (zJ A) (zJ B) (zJ C) rc (zI (p : Int)) = some (zI (tot A B C p p : Int), rc') := by
  obtain ⟨a, h1, h2⟩ := n_fill 97 0 N rc (by omega) (by omega) (fun i hi => by omega)
  obtain ⟨a', n', g1, g2, g3⟩ := n_sq (A := A) (B := B) (C := C) hp hp2 p 0 N a (by omega) (by omega) (fun v hv => by rw [h2 v hv]; rfl)
  have g4 := n_cnt hR hp hp2 g2 p 0 n' (by omega) (by omega)
  refine ⟨a', ?_⟩
  unfold a_cu_countFor a_ar_fill
  rw [if_neg (by rw [show (1 : Int32) = zI ((1 : Nat) : Int) from rfl, kI_lt (by omega) (by omega)]; omega), if_pos (by rw [show (97 : Int32) = zI ((97 : Nat) : Int) from rfl, kI_le (by omega) (by omega)]; omega)]
  have h1 : a_ar_fill_L5 0 N rc 0 = some a := h1
  rw [h1]
  exact g3.trans g4
theorem f_mm {n p : Int} (hp : 0 < p) : (n.tmod p + p).tmod p = n % p := by
  have h := f_tmod (n := n) hp
  have h1 := Int.emod_nonneg n (show p ≠ 0 by omega)
  have h2 : 0 ≤ n.tmod p + p := by
    split at h
    · omega
    · split at h <;> omega
  rw [Int.tmod_eq_emod_of_nonneg h2, Int.tmod_def, show n - p * n.tdiv p + p = n + p * (1 - n.tdiv p) by rw [Int.mul_sub]; omega, Int.add_mul_emod_self_left]
theorem m_row {p v : Nat} (hp : 1 ≤ p) (hp2 : p ≤ 97) (hv : v < p) {x3 : Int32} : ∀ (m k n c : Nat), k + m = p → m < n → a_md_counted_L30 (zI (p : Int)) n (zI (k : Int)) (zI ((c + sqc p v k : Nat) : Int)) x3 (zI (v : Int)) = some (zI ((c + sqc p v p : Nat) : Int), x3)
  | 0, k, n + 1, c, hk, _ => by
    have e : k = p := by omega
    rw [a_md_counted_L30, if_pos ((kI_le (by omega) (by omega)).mpr (by omega)), e]
  | m + 1, k, n + 1, c, hk, hn => by
    have hkk : k * k ≤ 97 * 97 := sq_b (by omega)
    have hm : k * k % p < p := Nat.mod_lt _ (by omega)
    have ih := m_row hp hp2 hv (x3 := x3) m (k + 1) n c (by omega) (by omega)
    rw [sqc_s] at ih
    rw [a_md_counted_L30, if_neg (by rw [kI_le (by omega) (by omega)]; omega), if_neg (kI_0 (by omega) (by omega)), kI_mul, kI_mod (by omega) (by omega), kI_s k, kI_s (c + sqc p v k)]
    have e : zI ((k * k % p : Nat) : Int) = zI (v : Int) ↔ k * k % p = v := kI_eq (by omega) (by omega)
    by_cases h : k * k % p = v
    · rw [if_pos h] at ih
      rw [if_pos (e.mpr h)]
      exact ih
    · rw [if_neg h] at ih
      rw [if_neg (fun q => h (e.mp q))]
      exact ih
theorem m_cnt {A B C : Int} {p : Nat} (hR : zR A B C) (hp : 1 ≤ p) (hp2 : p ≤ 97) : ∀ (m k n : Nat), k + m = p → m + 100 ≤ n → a_md_counted_L4 (zJ A) (zJ B) (zJ C) (zI (p : Int)) n (zI (k : Int)) (zI (tot A B C p k : Int)) = some (zI (tot A B C p p : Int))
  | 0, k, n + 1, hk, _ => by
    have e : k = p := by omega
    rw [a_md_counted_L4, if_pos ((kI_le (by omega) (by omega)).mpr (by omega)), e]
  | m + 1, k, n + 1, hk, hn => by
    have hb := zG_b (x := (k : Int)) hR (by omega) (by omega)
    obtain ⟨g1, g2⟩ := gmd_e (A := A) (B := B) (C := C) (p := p) k hp
    have ht := tmod_rng (a := zG A B C k) (b := (p : Int)) (M := 10000000000) (by omega) (by omega)
    have ev : ((a_md_cubic (zJ A) (zJ B) (zJ C) (zI (k : Int)).toInt64) - (a_md_cubic (zJ A) (zJ B) (zJ C) (zI (k : Int)).toInt64) / (zI (p : Int)).toInt64 * (zI (p : Int)).toInt64) = zJ ((zG A B C k).tmod p) := by
      rw [r_val (by omega) (by omega), zI_long (by omega) (by omega), zJ_rem (by omega) (by omega) (by omega) (by omega)]
    have ew : (((zJ ((zG A B C k).tmod p) + (zI (p : Int)).toInt64) - (zJ ((zG A B C k).tmod p) + (zI (p : Int)).toInt64) / (zI (p : Int)).toInt64 * (zI (p : Int)).toInt64).toInt32) = zI (gmd A B C p k : Int) := by
      rw [zI_long (by omega) (by omega), zJ_add, zJ_rem (by omega) (by omega) (by omega) (by omega), f_mm (by omega), g1, zJ_int]
    rw [a_md_counted_L4, if_neg (by rw [kI_le (by omega) (by omega)]; omega), if_neg (kJ_0 (by omega) (by omega)), ev, ew]
    have er : a_md_counted_L30 (zI (p : Int)) n 0 (zI (tot A B C p k : Int)) (zI (k : Int)) (zI (gmd A B C p k : Int)) = some (zI ((tot A B C p k + sqc p (gmd A B C p k) p : Nat) : Int), zI (k : Int)) := m_row (x3 := zI (k : Int)) hp hp2 g2 p 0 n (tot A B C p k) (by omega) (by omega)
    rw [er]
    show a_md_counted_L4 (zJ A) (zJ B) (zJ C) (zI (p : Int)) n (zI (k : Int) + 1) (zI ((tot A B C p k + sqc p (gmd A B C p k) p : Nat) : Int)) = _
    rw [kI_s, ← tot_s]
    exact m_cnt hR hp hp2 m (k + 1) n (by omega) (by omega)
theorem m_count {A B C : Int} {p N : Nat} (hR : zR A B C) (hp : 1 ≤ p) (hp2 : p ≤ 97) (hN : 500 ≤ N) : a_md_counted N (zJ A) (zJ B) (zJ C) (zI (p : Int)) = some (zI (tot A B C p p : Int)) := m_cnt hR hp hp2 p 0 N (by omega) (by omega)
theorem gcd_st (x y : Nat) : Nat.gcd y (x % y) = Nat.gcd x y := by rw [Nat.gcd_comm x y, Nat.gcd_rec y x, Nat.gcd_comm]
theorem m_gcd : ∀ (y x n : Nat), x ≤ 2147483647 → y ≤ 2147483647 → y < n → a_md_common_L13 n (zI (x : Int)) (zI (y : Int)) = some (zI (Nat.gcd x y : Int)) := by
  intro y
  induction y using Nat.strongRecOn with
  | _ y ih =>
    intro x n hx hy hn
    obtain ⟨n, rfl⟩ : ∃ k, n = k + 1 := ⟨n - 1, by omega⟩
    by_cases h0 : y = 0
    · subst h0
      rw [a_md_common_L13, if_pos (by rw [show (0 : Int32) = zI ((0 : Nat) : Int) from rfl, kI_le (by omega) (by omega)]; omega), Nat.gcd_zero_right]
    · have hm := Nat.mod_lt x (show 0 < y by omega)
      rw [a_md_common_L13, if_neg (by rw [show (0 : Int32) = zI ((0 : Nat) : Int) from rfl, kI_le (by omega) (by omega)]; omega), if_neg (kI_0 (by omega) (by omega)), kI_mod hx hy, ih (x % y) hm y n hy (by omega) (by omega), gcd_st]
theorem mod_half {y r : Nat} (hr : 0 < r) (h : r < y) : 2 * (y % r) < y := by
  by_cases h2 : 2 * r ≤ y
  · have := Nat.mod_lt y hr; omega
  · rw [Nat.mod_eq_sub_mod (by omega), Nat.mod_eq_of_lt (by omega)]; omega
theorem g_0 {x s n : Nat} (hs : s ≤ 63) : a_td_greatestDivisor_L7 (n + 1) (zI (x : Int)) (zI ((0 : Nat) : Int)) (zI (s : Int)) = some (zI (x : Int)) := by
  rw [a_td_greatestDivisor_L7, if_neg (by rw [show (64 : Int32) = zI ((64 : Nat) : Int) from rfl, kI_le (by omega) (by omega)]; omega), if_pos (show zI ((0 : Nat) : Int) = (0 : Int32) from rfl)]
theorem g_1 {x y s n : Nat} (hs : s ≤ 63) (hx : x ≤ 2147483647) (hy : y ≤ 2147483647) (h0 : y ≠ 0) : a_td_greatestDivisor_L7 (n + 1) (zI (x : Int)) (zI (y : Int)) (zI (s : Int)) = a_td_greatestDivisor_L7 n (zI (y : Int)) (zI ((x % y : Nat) : Int)) (zI ((s + 1 : Nat) : Int)) := by
  rw [a_td_greatestDivisor_L7, if_neg (by rw [show (64 : Int32) = zI ((64 : Nat) : Int) from rfl, kI_le (by omega) (by omega)]; omega), if_neg (kI_0 (by omega) (by omega)), kI_mod hx hy, kI_s]
theorem n_gcd : ∀ (k x y s n : Nat), x ≤ 2147483647 → y < 2 ^ k → y ≤ 2147483647 → s + 2 * k ≤ 62 → 2 * k + 1 ≤ n → a_td_greatestDivisor_L7 n (zI (x : Int)) (zI (y : Int)) (zI (s : Int)) = some (zI (Nat.gcd x y : Int))
  | 0, x, y, s, n, hx, hy, _, hs, hn => by
    obtain ⟨n, rfl⟩ : ∃ k, n = k + 1 := ⟨n - 1, by omega⟩
    have e : y = 0 := by rw [Nat.pow_zero] at hy; omega
    subst e
    rw [g_0 (by omega), Nat.gcd_zero_right]
  | k + 1, x, y, s, n, hx, hy, hy2, hs, hn => by
    obtain ⟨n, rfl⟩ : ∃ k, n = k + 1 + 1 := ⟨n - 2, by omega⟩
    by_cases h0 : y = 0
    · subst h0; rw [g_0 (by omega), Nat.gcd_zero_right]
    · have hm := Nat.mod_lt x (show 0 < y by omega)
      rw [g_1 (by omega) hx hy2 h0]
      by_cases h1 : x % y = 0
      · rw [h1, g_0 (by omega), ← gcd_st, h1, Nat.gcd_zero_right]
      · have hh := mod_half (show 0 < x % y by omega) hm
        rw [g_1 (by omega) hy2 (by omega) h1, n_gcd k (x % y) (y % (x % y)) (s + 1 + 1) n (by omega) (by rw [Nat.pow_succ] at hy; omega) (by omega) (by omega) (by omega), gcd_st, gcd_st]
