/-! the root of the largest square that divides a number -/
theorem sdr_u {n r s : Nat} (h1 : sdr n r) (h2 : sdr n s) : r = s := by
  have a : r ∣ s := (h2 r).mp ((h1 r).mpr (Nat.dvd_refl r))
  have b : s ∣ r := (h1 s).mp ((h2 s).mpr (Nat.dvd_refl s))
  exact Nat.dvd_antisymm a b
theorem noDiv_s {n p : Nat} (h : noDiv n p) (hp : ¬ p ∣ n) : noDiv n (p + 1) := by
  intro d h1 h2
  by_cases e : d = p
  · rw [e]; exact hp
  · exact h d h1 (by omega)
theorem noDiv_d {n m p : Nat} (h : noDiv n p) (hm : m ∣ n) : noDiv m p := fun d h1 h2 h3 => h d h1 h2 (Nat.dvd_trans h3 hm)
theorem qend_ok {n p : Nat} (h : noDiv n p) (hn : 0 < n) (hb : n < 4294967296) (hp : n < p * p * p) : sdr n (qend n) := by
  obtain ⟨h1, h2⟩ := qroot_ok hb
  have := sdr_end h hn hp h1 h2
  show sdr n (qB (Nat.beq (Nat.mul (qroot n) (qroot n)) n) (qroot n) 1)
  rw [qB_eq]
  simp only [qbeq]
  exact this
theorem qst_s (p : Nat) (k : Nat → Nat) (f n : Nat) : qst p k (f + 1) n = if n % p = 0 then (if n % (p * p) = 0 then p * qst p k f (n / (p * p)) else k (n / p)) else k n := by
  show qB (Nat.beq (Nat.mod n p) 0) (qB (Nat.beq (Nat.mod n (Nat.mul p p)) 0) (Nat.mul p (qst p k f (Nat.div n (Nat.mul p p)))) (k (Nat.div n p))) (k n) = _
  simp only [qB_eq, qbeq]
  rfl
theorem qst_ok {p : Nat} {k : Nat → Nat} {M : Nat} (hp : 2 ≤ p) (hk : ∀ m, 0 < m → m ∣ M → noDiv m (p + 1) → sdr m (k m)) : ∀ (f n : Nat), 0 < n → n ∣ M → n < 4 ^ f → noDiv n p → sdr n (qst p k f n)
  | 0, n, h1, _, h2, _ => by simp at h2; omega
  | f + 1, n, h1, hM, h2, hn => by
    rw [qst_s]
    by_cases hd : n % p = 0
    · rw [if_pos hd]
      have hdd : p ∣ n := Nat.dvd_of_mod_eq_zero hd
      have hpr := pr_of hn hp hdd
      by_cases hd2 : n % (p * p) = 0
      · rw [if_pos hd2]
        obtain ⟨m, hm⟩ := Nat.dvd_of_mod_eq_zero hd2
        have hpp : 0 < p * p := Nat.mul_pos (by omega) (by omega)
        have hpp4 : 4 ≤ p * p := Nat.mul_le_mul hp hp
        have hq : n / (p * p) = m := by rw [hm, Nat.mul_div_cancel_left _ hpp]
        have hm0 : 0 < m := by
          rcases Nat.eq_zero_or_pos m with h | h
          · rw [h] at hm; omega
          · exact h
        have h4 : 4 * m ≤ n := by rw [hm]; exact Nat.mul_le_mul_right m hpp4
        rw [hq]
        have := qst_ok hp hk f m hm0 (Nat.dvd_trans ⟨p * p, by rw [hm, Nat.mul_comm]⟩ hM) (by rw [Nat.pow_succ] at h2; omega) (noDiv_d hn ⟨p * p, by rw [hm, Nat.mul_comm]⟩)
        rw [hm]
        exact sdr_sq hpr (by omega) this
      · rw [if_neg hd2]
        obtain ⟨m, hm⟩ := hdd
        have hq : n / p = m := by rw [hm, Nat.mul_div_cancel_left _ (by omega)]
        have hm0 : 0 < m := by
          rcases Nat.eq_zero_or_pos m with h | h
          · rw [h] at hm; omega
          · exact h
        have hpm : ¬ p ∣ m := by
          rintro ⟨c, hc⟩
          apply hd2
          rw [hm, hc, ← Nat.mul_assoc]
          exact Nat.mul_mod_right _ _
        have hmn : m ≤ n := by rw [hm]; exact Nat.le_mul_of_pos_left m (by omega)
        rw [hq, hm]
        exact sdr_drop hpr (by omega) hpm (hk m hm0 (Nat.dvd_trans ⟨p, by rw [hm, Nat.mul_comm]⟩ hM) (noDiv_s (noDiv_d hn ⟨p, by rw [hm, Nat.mul_comm]⟩) hpm))
    · rw [if_neg hd]
      exact hk n h1 hM (noDiv_s hn (fun h => hd (Nat.mod_eq_zero_of_dvd h)))
theorem qtr_c (p : Nat) (l : List Nat) (n : Nat) : qtr (p :: l) n = if p * p * p ≤ n then (if n % p = 0 then qst p (qtr l) 32 n else qtr l n) else qend n := by
  show qB (Nat.ble (Nat.mul (Nat.mul p p) p) n) (qB (Nat.beq (Nat.mod n p) 0) (qF n (qst p (qtr l) 32)) (qtr l n)) (qend n) = _
  rw [qF_eq, qB_eq, qB_eq]
  simp only [qble, qbeq]
  rfl
theorem qtr_ok : ∀ (l : List Nat) (p n : Nat), l = List.range' p l.length → 2 ≤ p → 0 < n → n < 4294967296 → noDiv n p → n < (p + l.length) * (p + l.length) * (p + l.length) → sdr n (qtr l n)
  | [], p, n, _, hp, h0, hb, hn, he => qend_ok hn h0 hb he
  | q :: l, p, n, hl, hp, h0, hb, hn, hm => by
    have hl' : q :: l = p :: List.range' (p + 1) l.length := by rw [hl]; simp [List.range'_succ]
    have hq : q = p := (List.cons.inj hl').1
    have ht : l = List.range' (p + 1) l.length := (List.cons.inj hl').2
    subst hq
    have hlen : (q :: l).length = l.length + 1 := rfl
    rw [hlen, show q + (l.length + 1) = q + 1 + l.length by omega] at hm
    have ih : ∀ m, 0 < m → m ∣ n → noDiv m (q + 1) → sdr m (qtr l m) := by
      intro m h1 h2 h3
      have h4 := Nat.le_of_dvd h0 h2
      exact qtr_ok l (q + 1) m ht (by omega) h1 (by omega) h3 (by omega)
    rw [qtr_c]
    by_cases hc : q * q * q ≤ n
    · rw [if_pos hc]
      by_cases hd : n % q = 0
      · rw [if_pos hd]
        exact qst_ok (M := n) hp ih 32 n h0 (Nat.dvd_refl _) (by omega) hn
      · rw [if_neg hd]
        exact ih n h0 (Nat.dvd_refl _) (noDiv_s hn (fun h => hd (Nat.mod_eq_zero_of_dvd h)))
    · rw [if_neg hc]
      exact qend_ok hn h0 hb (by omega)
theorem qPL_r : qPL = 2 :: List.range' 3 150 := by decide +kernel
theorem qtr_sdr {n : Nat} (h0 : 0 < n) (hb : n ≤ 892366848) (hm : n % 256 = 0) : sdr n (qtr qPL n) := by
  rw [qPL_r, qtr_c, if_pos (by omega), if_pos (by omega)]
  refine qst_ok (M := n) (by omega) ?_ 32 n h0 (Nat.dvd_refl _) (by omega) (fun d a b => by omega)
  intro m h1 h2 h3
  have hodd : ¬ 2 ∣ m := h3 2 (by omega) (by omega)
  have hc : Nat.Coprime 256 m := by
    have : Nat.Coprime 2 m := by
      refine cop_of (fun d hd => ?_) hodd
      have h5 := Nat.le_of_dvd (by omega) hd
      have h6 : d ≠ 0 := fun h => by rw [h] at hd; simp at hd
      omega
    exact Nat.Coprime.pow_left 8 this
  have hd : 256 * m ∣ n := hc.mul_dvd_of_dvd_of_dvd (Nat.dvd_of_mod_eq_zero hm) h2
  have := Nat.le_of_dvd h0 hd
  refine qtr_ok (List.range' 3 150) 3 m (by rw [List.length_range']) (by omega) h1 (by omega) h3 ?_
  rw [List.length_range']
  omega
/-! the class's way -/
theorem c_strip {p : Nat} (hp : 2 ≤ p) (hp2 : p ≤ 1000) : ∀ (f i rest root n : Nat), i + f = 64 → f < n → 0 < rest → rest < 4 ^ f → rest ≤ 4294967296 → noDiv rest p → ∃ rest' q : Nat, a_sd_largestRoot_L35 n (zJ (rest : Int)) (zJ (root : Int)) (zI (i : Int)) (zJ (p : Int)) = some (zJ (rest' : Int), zJ ((root * q : Nat) : Int), zJ (p : Int)) ∧ ¬ p * p ∣ rest' ∧ 0 < rest' ∧ rest' ∣ rest ∧ rest' ≤ rest ∧ q * q * rest' = rest ∧ ∀ t, sdr rest' t → sdr rest (q * t)
  | 0, i, rest, root, n, _, _, h0, h1, _, _ => by simp at h1; omega
  | f + 1, i, rest, root, n + 1, hi, hn, h0, h1, hb, hd => by
    have hpp : p * p ≤ 1000 * 1000 := sq_b hp2
    have hpp4 : 4 ≤ p * p := Nat.mul_le_mul hp hp
    have e := kJ_rem (a := rest) (b := p * p) (by omega) (by omega)
    rw [a_sd_largestRoot_L35, if_neg (by rw [show (64 : Int32) = zI ((64 : Nat) : Int) from rfl, kI_le (by omega) (by omega)]; omega), kJ_mul, if_neg (by rw [show (0 : Int64) = zJ ((0 : Nat) : Int) from rfl, kJ_eq (by omega) (by omega)]; omega)]
    by_cases h : p * p ∣ rest
    · rw [if_pos (e.mpr h), kJ_mul, kJ_div (by omega) (by omega), kI_s]
      obtain ⟨m, hm⟩ := h
      have hq : rest / (p * p) = m := by rw [hm, Nat.mul_div_cancel_left _ (by omega)]
      have hm0 : 0 < m := by
        rcases Nat.eq_zero_or_pos m with h | h
        · rw [h] at hm; omega
        · exact h
      have h4 : 4 * m ≤ rest := by rw [hm]; exact Nat.mul_le_mul_right m hpp4
      have hdm : m ∣ rest := ⟨p * p, by rw [hm, Nat.mul_comm]⟩
      rw [hq]
      obtain ⟨r', q, g1, g2, g3, g4, g5, g6, g7⟩ := c_strip hp hp2 f (i + 1) m (root * p) n (by omega) (by omega) hm0 (by rw [Nat.pow_succ] at h1; omega) (by omega) (noDiv_d hd hdm)
      have hpr := pr_of hd hp (Nat.dvd_trans ⟨p, rfl⟩ ⟨m, hm⟩)
      refine ⟨r', p * q, by rw [g1, Nat.mul_assoc], g2, g3, Nat.dvd_trans g4 hdm, by omega, ?_, fun t ht => ?_⟩
      · rw [hm, ← g6]; grind
      · rw [hm, Nat.mul_assoc p q t]
        exact sdr_sq hpr (by omega) (g7 t ht)
    · rw [if_neg (fun q => h (e.mp q))]
      exact ⟨rest, 1, by rw [Nat.mul_one], h, h0, Nat.dvd_refl _, Nat.le_refl _, by omega, fun t ht => by rw [Nat.one_mul]; exact ht⟩
theorem c_last {p rest root N : Nat} (hd : noDiv rest p) (h0 : 0 < rest) (hb : rest < 4294967296) (hp : rest < p * p * p) (hr : root * root * rest ≤ 4294967296) (hN : 20 ≤ N) : ∃ t, sdr rest t ∧ ((a_sd_floorOfRoot N (zJ (rest : Int))).bind (fun r_c99 => (if (r_c99 * r_c99) = zJ (rest : Int) then (some ((zJ (root : Int) * r_c99).toInt32)) else (some (zJ (root : Int)).toInt32)))) = some (zI ((root * t : Nat) : Int)) := by
  obtain ⟨s, ⟨h1, h2⟩, hs⟩ := c_floor hb hN
  have e : zJ ((s * s : Nat) : Int) = zJ (rest : Int) ↔ s * s = rest := kJ_eq (by omega) (by omega)
  refine ⟨if s * s = rest then s else 1, sdr_end hd h0 hp h1 h2, ?_⟩
  rw [hs, Option.bind_some, kJ_mul]
  by_cases h : s * s = rest
  · rw [if_pos (e.mpr h), if_pos h, kJ_mul, zJ_int]
  · rw [if_neg (fun q => h (e.mp q)), if_neg h, zJ_int, Nat.mul_one]
theorem c_larg : ∀ (k p rest root n : Nat), p + k = 1000 → 2 ≤ p → k + 200 ≤ n → 0 < rest → rest ≤ 892366848 → noDiv rest p → root * root * rest ≤ 4294967296 → ∃ t, sdr rest t ∧ a_sd_largestRoot_L10 n (zJ (p : Int)) (zJ (rest : Int)) (zJ (root : Int)) = some (zI ((root * t : Nat) : Int))
  | 0, p, rest, root, n + 1, hk, hp, hn, h0, hb, hd, hr => by
    have hp' : p = 1000 := by omega
    obtain ⟨t, h1, h2⟩ := c_last (N := n) hd h0 (by omega) (by rw [hp']; omega) hr (by omega)
    refine ⟨t, h1, ?_⟩
    rw [a_sd_largestRoot_L10, if_pos (by rw [show (1000 : Int64) = zJ ((1000 : Nat) : Int) from rfl, kJ_le (by omega) (by omega)]; omega)]
    exact h2
  | k + 1, p, rest, root, n + 1, hk, hp, hn, h0, hb, hd, hr => by
    have hpp : p * p ≤ 1000 * 1000 := sq_b (by omega)
    have hppp : p * p * p ≤ 1000 * 1000 * 1000 := Nat.mul_le_mul hpp (by omega)
    have e : zJ (rest : Int) < zJ ((p * p * p : Nat) : Int) ↔ rest < p * p * p := kJ_lt (by omega) (by omega)
    rw [a_sd_largestRoot_L10, if_neg (by rw [show (1000 : Int64) = zJ ((1000 : Nat) : Int) from rfl, kJ_le (by omega) (by omega)]; omega), kJ_mul, kJ_mul]
    by_cases h : rest < p * p * p
    · rw [if_pos (e.mpr h)]
      exact c_last hd h0 (by omega) h hr (by omega)
    · rw [if_neg (fun q => h (e.mp q))]
      obtain ⟨m, q, g1, g2, g3, g4, g5, g6, g7⟩ := c_strip hp (by omega) 64 0 rest root n (by omega) (by omega) h0 (by omega) (by omega) hd
      have hrq : root * q * (root * q) * m ≤ 4294967296 := by
        rw [show root * q * (root * q) * m = root * root * (q * q * m) by grind, g6]; exact hr
      rw [show (0 : Int32) = zI ((0 : Nat) : Int) from rfl, g1, Option.bind_some]
      dsimp only
      have e0 : zJ (p : Int) + 1 = zJ ((p + 1 : Nat) : Int) := kJ_add p 1
      have e2 := kJ_rem (a := m) (b := p) (by omega) (by omega)
      rw [if_neg (by rw [show (0 : Int64) = zJ ((0 : Nat) : Int) from rfl, kJ_eq (by omega) (by omega)]; omega), e0]
      have hdm := noDiv_d hd g4
      by_cases h2 : p ∣ m
      · have hpr := pr_of hdm hp h2
        rw [if_pos (e2.mpr h2), kJ_div (by omega) (by omega)]
        obtain ⟨m', hm'⟩ := h2
        have hq : m / p = m' := by rw [hm', Nat.mul_div_cancel_left _ (by omega)]
        have hm0 : 0 < m' := by
          rcases Nat.eq_zero_or_pos m' with h | h
          · rw [h] at hm'; omega
          · exact h
        have hpm : ¬ p ∣ m' := by
          rintro ⟨c, hc⟩
          exact g2 ⟨c, by rw [hm', hc, Nat.mul_assoc]⟩
        have hmn : m' ≤ m := by rw [hm']; exact Nat.le_mul_of_pos_left m' (by omega)
        rw [hq]
        obtain ⟨t, t1, t2⟩ := c_larg k (p + 1) m' (root * q) n (by omega) (by omega) (by omega) hm0 (by omega) (noDiv_s (noDiv_d hdm ⟨p, by rw [hm', Nat.mul_comm]⟩) hpm) (Nat.le_trans (Nat.mul_le_mul_left _ hmn) hrq)
        refine ⟨q * t, g7 t ?_, by rw [t2, Nat.mul_assoc]⟩
        rw [hm']
        exact sdr_drop hpr (by omega) hpm t1
      · rw [if_neg (fun q => h2 (e2.mp q))]
        obtain ⟨t, t1, t2⟩ := c_larg k (p + 1) m (root * q) n (by omega) (by omega) (by omega) g3 (by omega) (noDiv_s hdm h2) hrq
        exact ⟨q * t, g7 t t1, by rw [t2, Nat.mul_assoc]⟩
theorem c_root {d N : Nat} (h0 : 0 < d) (hb : d ≤ 892366848) (hN : 2000 ≤ N) : ∃ t, sdr d t ∧ a_sd_largestRoot N (zJ (d : Int)) = some (zI (t : Int)) := by
  obtain ⟨t, h1, h2⟩ := c_larg 998 2 d 1 N (by omega) (by omega) (by omega) h0 hb (fun q a b => by omega) (by omega)
  refine ⟨t, h1, ?_⟩
  rw [Nat.one_mul] at h2
  exact h2
