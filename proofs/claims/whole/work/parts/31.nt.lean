/-! squares that divide a number -/
def sdr (n r : Nat) : Prop := ∀ y : Nat, y * y ∣ n ↔ y ∣ r
def noDiv (n p : Nat) : Prop := ∀ d : Nat, 2 ≤ d → d < p → ¬ d ∣ n
theorem pr_of {n p : Nat} (h : noDiv n p) (hp : 2 ≤ p) (hd : p ∣ n) : ∀ d : Nat, d ∣ p → d = 1 ∨ d = p := by
  intro d hdp
  have hle := Nat.le_of_dvd (by omega) hdp
  have h0 : d ≠ 0 := by
    intro h0
    rw [h0] at hdp
    have := Nat.eq_zero_of_zero_dvd hdp
    omega
  by_cases h2 : d < 2
  · omega
  · by_cases h3 : d < p
    · exact absurd (Nat.dvd_trans hdp hd) (h d (by omega) h3)
    · omega
theorem cop_of {p y : Nat} (hp : ∀ d : Nat, d ∣ p → d = 1 ∨ d = p) (hy : ¬ p ∣ y) : Nat.Coprime p y := by
  rcases hp (Nat.gcd p y) (Nat.gcd_dvd_left p y) with h | h
  · exact h
  · exact absurd (by have := Nat.gcd_dvd_right p y; rw [h] at this; exact this) hy
theorem sdr_sq {m r p : Nat} (hp : ∀ d : Nat, d ∣ p → d = 1 ∨ d = p) (hp0 : 0 < p) (h : sdr m r) : sdr (p * p * m) (p * r) := by
  intro y
  by_cases hy : p ∣ y
  · obtain ⟨z, rfl⟩ := hy
    rw [show p * z * (p * z) = p * p * (z * z) by rw [Nat.mul_mul_mul_comm], Nat.mul_dvd_mul_iff_left (Nat.mul_pos hp0 hp0), Nat.mul_dvd_mul_iff_left hp0]
    exact h z
  · have hc := cop_of hp hy
    have hc2 : Nat.Coprime (y * y) (p * p) := Nat.Coprime.mul_left (Nat.Coprime.mul_right hc.symm hc.symm) (Nat.Coprime.mul_right hc.symm hc.symm)
    constructor
    · intro hd
      exact Nat.dvd_trans ((h y).mp (hc2.dvd_of_dvd_mul_left hd)) (Nat.dvd_mul_left r p)
    · intro hd
      exact Nat.dvd_trans ((h y).mpr (hc.symm.dvd_of_dvd_mul_left hd)) (Nat.dvd_mul_left m (p * p))
theorem sdr_drop {m r p : Nat} (hp : ∀ d : Nat, d ∣ p → d = 1 ∨ d = p) (hp0 : 0 < p) (hpm : ¬ p ∣ m) (h : sdr m r) : sdr (p * m) r := by
  intro y
  by_cases hy : p ∣ y
  · constructor
    · intro hd
      exfalso
      obtain ⟨z, rfl⟩ := hy
      have h1 : p * p ∣ p * m := Nat.dvd_trans ⟨z * z, by rw [Nat.mul_mul_mul_comm]⟩ hd
      exact hpm ((Nat.mul_dvd_mul_iff_left hp0).mp h1)
    · intro hd
      exact Nat.dvd_trans ((h y).mpr hd) (Nat.dvd_mul_left m p)
  · have hc := cop_of hp hy
    have hc2 : Nat.Coprime (y * y) p := Nat.Coprime.mul_left hc.symm hc.symm
    constructor
    · intro hd
      exact (h y).mp (hc2.dvd_of_dvd_mul_left hd)
    · intro hd
      exact Nat.dvd_trans ((h y).mpr hd) (Nat.dvd_mul_left m p)
theorem sdr_end {n p s : Nat} (h : noDiv n p) (hn : 0 < n) (hp : n < p * p * p) (h1 : s * s ≤ n) (h2 : n < (s + 1) * (s + 1)) : sdr n (if s * s = n then s else 1) := by
  intro y
  constructor
  · intro hd
    obtain ⟨k, hk⟩ := hd
    have hy0 : 0 < y := by
      rcases Nat.eq_zero_or_pos y with h0 | h0
      · rw [h0] at hk; omega
      · exact h0
    have hk0 : 0 < k := by
      rcases Nat.eq_zero_or_pos k with h0 | h0
      · rw [h0] at hk; omega
      · exact h0
    by_cases hy1 : y = 1
    · rw [hy1]; exact Nat.one_dvd _
    · have hyp : p ≤ y := Nat.le_of_not_lt fun hlt => h y (by omega) hlt ⟨y * k, by rw [hk, Nat.mul_assoc]⟩
      have hk1 : k = 1 := by
        by_cases hk1 : k = 1
        · exact hk1
        · have hkp : p ≤ k := Nat.le_of_not_lt fun hlt => h k (by omega) hlt ⟨y * y, by rw [hk, Nat.mul_comm]⟩
          have h3 : p * p ≤ y * y := Nat.mul_le_mul hyp hyp
          have h4 : p * p * p ≤ y * y * k := Nat.mul_le_mul h3 hkp
          omega
      rw [hk1, Nat.mul_one] at hk
      have hs : s = y := by
        rcases Nat.lt_trichotomy s y with h5 | h5 | h5
        · have h6 : (s + 1) * (s + 1) ≤ y * y := Nat.mul_le_mul h5 h5
          omega
        · exact h5
        · have h6 : (y + 1) * (y + 1) ≤ s * s := Nat.mul_le_mul h5 h5
          have h7 : (y + 1) * (y + 1) = y * y + 2 * y + 1 := by grind
          omega
      rw [if_pos (by rw [hs, hk])]
      rw [hs]
      exact Nat.dvd_refl y
  · intro hd
    by_cases hs : s * s = n
    · rw [if_pos hs] at hd
      rw [← hs]
      exact Nat.mul_dvd_mul hd hd
    · rw [if_neg hs] at hd
      rw [Nat.dvd_one.mp hd]
      exact Nat.one_dvd n
/-! roots -/
def isq (g s : Nat) : Prop := s * s ≤ g ∧ g < (s + 1) * (s + 1)
theorem isq_u {g s r : Nat} (h1 : isq g s) (h2 : isq g r) : s = r := by
  obtain ⟨a, b⟩ := h1
  obtain ⟨c, d⟩ := h2
  rcases Nat.lt_trichotomy s r with h | h | h
  · have := Nat.mul_le_mul (show s + 1 ≤ r from h) (show s + 1 ≤ r from h); omega
  · exact h
  · have := Nat.mul_le_mul (show r + 1 ≤ s from h) (show r + 1 ≤ s from h); omega
theorem isq_sq (s : Nat) : isq (s * s) s := ⟨Nat.le_refl _, Nat.mul_lt_mul_of_lt_of_le (Nat.lt_succ_self s) (Nat.le_succ s) (Nat.succ_pos s)⟩
theorem qrt_s (g f b r : Nat) : qrt g (f + 1) b r = if (r + b) * (r + b) ≤ g then qrt g f (b / 2) (r + b) else qrt g f (b / 2) r := by
  show qB (Nat.ble (Nat.mul (Nat.add r b) (Nat.add r b)) g) (qrt g f (Nat.div b 2) (Nat.add r b)) (qrt g f (Nat.div b 2) r) = _
  rw [qB_eq]
  simp only [qble]
  rfl
theorem pow2h (f : Nat) : 2 ^ (f + 1) / 2 = 2 ^ f := by rw [Nat.pow_succ, Nat.mul_div_cancel _ (by decide)]
theorem qrt_ok {g : Nat} : ∀ (f r : Nat), r * r ≤ g → g < (r + 2 ^ f) * (r + 2 ^ f) → isq g (qrt g f (2 ^ f / 2) r)
  | 0, r, h1, h2 => ⟨h1, h2⟩
  | f + 1, r, h1, h2 => by
    rw [qrt_s, pow2h]
    split
    · rename_i h
      refine qrt_ok f _ h ?_
      rw [show r + 2 ^ f + 2 ^ f = r + 2 ^ (f + 1) by rw [Nat.pow_succ]; omega]
      exact h2
    · rename_i h
      exact qrt_ok f r h1 (by omega)
theorem qroot_ok {g : Nat} (h : g < 4294967296) : isq g (qroot g) := qrt_ok 16 0 (Nat.zero_le _) (by simpa using h)
theorem shr_ok : ∀ f : Nat, f < 17 → zJ ((2 ^ f : Nat) : Int) >>> ((1 : Int32).toInt64 &&& 63) = zJ ((2 ^ f / 2 : Nat) : Int) := by decide +kernel
theorem kJ_le {a b : Nat} (h1 : a ≤ 9223372036854775807) (h2 : b ≤ 9223372036854775807) : (zJ (a : Int) ≤ zJ (b : Int)) ↔ a ≤ b := by
  rw [zJ_le (by omega) (by omega) (by omega) (by omega)]; omega
theorem kJ_lt {a b : Nat} (h1 : a ≤ 9223372036854775807) (h2 : b ≤ 9223372036854775807) : (zJ (a : Int) < zJ (b : Int)) ↔ a < b := by
  rw [zJ_lt (by omega) (by omega) (by omega) (by omega)]; omega
theorem kJ_eq {a b : Nat} (h1 : a ≤ 9223372036854775807) (h2 : b ≤ 9223372036854775807) : (zJ (a : Int) = zJ (b : Int)) ↔ a = b := by
  rw [zJ_eq (by omega) (by omega) (by omega) (by omega)]; omega
theorem kJ_add (a b : Nat) : zJ (a : Int) + zJ (b : Int) = zJ ((a + b : Nat) : Int) := by rw [zJ_add]; rfl
theorem kJ_mul (a b : Nat) : zJ (a : Int) * zJ (b : Int) = zJ ((a * b : Nat) : Int) := by rw [zJ_mul]; rfl
theorem kJ_div {a b : Nat} (h1 : a ≤ 9223372036854775807) (h2 : b ≤ 9223372036854775807) : zJ (a : Int) / zJ (b : Int) = zJ ((a / b : Nat) : Int) := by
  rw [zJ_div (by omega) (by omega) (by omega) (by omega), ← Int.ofNat_tdiv]
theorem kJ_rem {a b : Nat} (h1 : a ≤ 9223372036854775807) (h2 : b ≤ 9223372036854775807) : (zJ (a : Int) - zJ (a : Int) / zJ (b : Int) * zJ (b : Int) = 0) ↔ b ∣ a := by
  rw [show (0 : Int64) = zJ 0 from rfl, zJ_rem0 (by omega) (by omega) (by omega) (by omega)]
  exact Int.ofNat_dvd
theorem sq_b {a b : Nat} (h : a ≤ b) : a * a ≤ b * b := Nat.mul_le_mul h h
theorem c_flo {g : Nat} (hg : g ≤ 9223372036854775807) : ∀ (f n r : Nat), f ≤ 16 → f < n → r * r ≤ g → g < (r + 2 ^ f) * (r + 2 ^ f) → r + 2 ^ f ≤ 65536 → ∃ s, isq g s ∧ a_sd_floorOfRoot_L7 (zJ (g : Int)) n (zJ ((2 ^ f / 2 : Nat) : Int)) (zJ (r : Int)) = some (zJ (s : Int))
  | 0, n + 1, r, _, _, h1, h2, _ => ⟨r, ⟨h1, h2⟩, by rw [a_sd_floorOfRoot_L7, if_pos (by decide)]⟩
  | f + 1, n + 1, r, hf, hn, h1, h2, h3 => by
    have hp : 0 < 2 ^ f := Nat.two_pow_pos f
    have hps : 2 ^ (f + 1) = 2 ^ f + 2 ^ f := by rw [Nat.pow_succ]; omega
    have hb : (r + 2 ^ f) * (r + 2 ^ f) ≤ 65536 * 65536 := sq_b (by omega)
    rw [pow2h, a_sd_floorOfRoot_L7, if_neg (by rw [show (0 : Int64) = zJ ((0 : Nat) : Int) from rfl, kJ_le (by omega) (by omega)]; omega), kJ_add, kJ_mul, shr_ok f (by omega)]
    have e : zJ (g : Int) < zJ (((r + 2 ^ f) * (r + 2 ^ f) : Nat) : Int) ↔ g < (r + 2 ^ f) * (r + 2 ^ f) := kJ_lt hg (by omega)
    by_cases h : g < (r + 2 ^ f) * (r + 2 ^ f)
    · rw [if_pos (e.mpr h)]
      exact c_flo hg f n r (by omega) (by omega) h1 h (by omega)
    · rw [if_neg (fun q => h (e.mp q))]
      exact c_flo hg f n (r + 2 ^ f) (by omega) (by omega) (by omega) (by rw [show r + 2 ^ f + 2 ^ f = r + 2 ^ (f + 1) by omega]; exact h2) (by omega)
theorem c_floor {g N : Nat} (hg : g < 4294967296) (hN : 20 ≤ N) : ∃ s, isq g s ∧ a_sd_floorOfRoot N (zJ (g : Int)) = some (zJ (s : Int)) := c_flo (by omega) 16 N 0 (by omega) (by omega) (Nat.zero_le _) (by simpa using hg) (by decide)
theorem r_roo {g : Nat} (hg : g ≤ 9223372036854775807) : ∀ (f n r : Nat), f ≤ 17 → f < n → r * r ≤ g → g < (r + 2 ^ f) * (r + 2 ^ f) → r + 2 ^ f ≤ 131072 → ∃ s, isq g s ∧ a_md_root_L5 (zJ (g : Int)) n (zI ((2 ^ f / 2 : Nat) : Int)) (zI (r : Int)) = some (zI (s : Int))
  | 0, n + 1, r, _, _, h1, h2, _ => ⟨r, ⟨h1, h2⟩, by rw [a_md_root_L5, if_pos (by decide)]⟩
  | f + 1, n + 1, r, hf, hn, h1, h2, h3 => by
    have hp : 0 < 2 ^ f := Nat.two_pow_pos f
    have hps : 2 ^ (f + 1) = 2 ^ f + 2 ^ f := by rw [Nat.pow_succ]; omega
    have hb : (r + 2 ^ f) * (r + 2 ^ f) ≤ 131072 * 131072 := sq_b (by omega)
    have e1 : zI (r : Int) + zI ((2 ^ f : Nat) : Int) = zI ((r + 2 ^ f : Nat) : Int) := by rw [zI_add]; rfl
    have e2 : zI ((2 ^ f : Nat) : Int) / 2 = zI ((2 ^ f / 2 : Nat) : Int) := by
      rw [show (2 : Int32) = zI ((2 : Nat) : Int) from rfl, zI_div (by omega) (by omega) (by omega) (by omega), ← Int.ofNat_tdiv]
    rw [pow2h, a_md_root_L5, if_neg (by rw [show (0 : Int32) = zI ((0 : Nat) : Int) from rfl, kI_le (by omega) (by omega)]; omega), e1, e2, zI_long (by omega) (by omega), kJ_mul]
    have e : zJ (g : Int) < zJ (((r + 2 ^ f) * (r + 2 ^ f) : Nat) : Int) ↔ g < (r + 2 ^ f) * (r + 2 ^ f) := kJ_lt hg (by omega)
    by_cases h : g < (r + 2 ^ f) * (r + 2 ^ f)
    · rw [if_pos (e.mpr h)]
      exact r_roo hg f n r (by omega) (by omega) h1 h (by omega)
    · rw [if_neg (fun q => h (e.mp q))]
      exact r_roo hg f n (r + 2 ^ f) (by omega) (by omega) (by omega) (by rw [show r + 2 ^ f + 2 ^ f = r + 2 ^ (f + 1) by omega]; exact h2) (by omega)
theorem r_root {g N : Nat} (hg : g < 17179869184) (hN : 20 ≤ N) : ∃ s, isq g s ∧ a_md_root N (zJ (g : Int)) = some (zI (s : Int)) := r_roo (by omega) 17 N 0 (by omega) (by omega) (Nat.zero_le _) (by simpa using hg) (by decide)
