/-! the class's list of divisors -/
def dAr (l : List Nat) (dr : Nat → Int32) : Prop := ∀ i : Nat, i < l.length → dr i = zI (l.getD i 0 : Int)
theorem dAr_app {l : List Nat} {dr : Nat → Int32} {x : Nat} (h : dAr l dr) : dAr (l ++ [x]) (upd dr l.length (zI (x : Int))) := by
  intro i hi
  rw [List.length_append, List.length_singleton] at hi
  unfold upd
  by_cases e : i = l.length
  · rw [if_pos e, e, List.getD_eq_getElem?_getD, List.getElem?_append_right (Nat.le_refl _), Nat.sub_self]; rfl
  · rw [if_neg e, h i (by omega), List.getD_eq_getElem?_getD, List.getD_eq_getElem?_getD, List.getElem?_append_left (by omega)]
theorem d_app {l : List Nat} {dr : Nat → Int32} {x : Nat} (hl : l.length < 64) : a_sd_append (zI (l.length : Int)) dr (zI (x : Int)) = some (upd dr l.length (zI (x : Int)), zI ((l ++ [x]).length : Int)) := by
  unfold a_sd_append
  rw [if_neg (by rw [show (64 : Int32) = zI ((64 : Nat) : Int) from rfl, kI_le (by omega) (by omega)]; omega), if_neg (kI_bad (by omega) (by omega)), kI_nat (by omega), kI_s, List.length_append]
  rfl
def dvs (t a m : Nat) : List Nat := (List.range' a m).filter (fun d => decide (d ∣ t))
theorem dvs_s (t a m : Nat) : dvs t a (m + 1) = if a ∣ t then a :: dvs t (a + 1) m else dvs t (a + 1) m := by
  unfold dvs
  rw [List.range'_succ, List.filter_cons]
  simp only [decide_eq_true_eq]
def dup (t : Nat) : Nat → List Nat
  | 0 => []
  | d + 1 => if d + 1 ∣ t ∧ d + 1 < t / (d + 1) then t / (d + 1) :: dup t d else dup t d
theorem kI_div {a b : Nat} (h1 : a ≤ 2147483647) (h2 : b ≤ 2147483647) : zI (a : Int) / zI (b : Int) = zI ((a / b : Nat) : Int) := by
  rw [zI_div (by omega) (by omega) (by omega) (by omega), ← Int.ofNat_tdiv]
theorem kI_rem {a b : Nat} (h1 : a ≤ 2147483647) (h2 : b ≤ 2147483647) : (zI (a : Int) - zI (a : Int) / zI (b : Int) * zI (b : Int) = 0) ↔ b ∣ a := by
  rw [show (0 : Int32) = zI 0 from rfl, zI_rem0 (by omega) (by omega) (by omega) (by omega)]
  exact Int.ofNat_dvd
theorem d_two {t : Nat} (ht : t ≤ 65535) : ∀ (d n : Nat) (l : List Nat) (dr : Nat → Int32), d ≤ 65535 → d < n → dAr l dr → (l ++ dup t d).length ≤ 64 → ∃ dr', a_sd_listFor_L63 (zI (t : Int)) n dr (zI (l.length : Int)) (zI (d : Int)) = some (dr', zI ((l ++ dup t d).length : Int), zJ ((t * t : Nat) : Int)) ∧ dAr (l ++ dup t d) dr'
  | 0, n + 1, l, dr, _, _, ha, _ => by
    refine ⟨dr, ?_, by rw [dup, List.append_nil]; exact ha⟩
    rw [a_sd_listFor_L63, if_pos (by decide), zI_long (by omega) (by omega), kJ_mul, dup, List.append_nil]
  | d + 1, n + 1, l, dr, hd, hn, ha, hl => by
    have e1 := kI_rem (a := t) (b := d + 1) (by omega) (by omega)
    have hq : t / (d + 1) ≤ t := Nat.div_le_self _ _
    have e2 : zI ((t / (d + 1) : Nat) : Int) ≤ zI ((d + 1 : Nat) : Int) ↔ t / (d + 1) ≤ d + 1 := kI_le (by omega) (by omega)
    have e3 : zI ((d + 1 : Nat) : Int) + -1 = zI (d : Int) := by rw [show (-1 : Int32) = zI (-1) from rfl, zI_add]; congr 1; omega
    rw [dup] at hl ⊢
    rw [a_sd_listFor_L63, if_neg (by rw [show (1 : Int32) = zI ((1 : Nat) : Int) from rfl, kI_lt (by omega) (by omega)]; omega), if_neg (by rw [show (0 : Int32) = zI ((0 : Nat) : Int) from rfl, kI_eq (by omega) (by omega)]; omega), kI_div (by omega) (by omega), e3]
    rw [kI_div (by omega) (by omega)] at e1
    by_cases h : d + 1 ∣ t
    · rw [if_pos (e1.mpr h)]
      by_cases h2 : d + 1 < t / (d + 1)
      · rw [if_pos (show d + 1 ∣ t ∧ d + 1 < t / (d + 1) from ⟨h, h2⟩)] at hl ⊢
        rw [if_neg (fun q => by have := e2.mp q; omega)]
        have hl1 : l.length < 64 := by
          rw [List.length_append, List.length_cons] at hl; omega
        rw [d_app hl1, Option.bind_some]
        dsimp only
        rw [show l ++ t / (d + 1) :: dup t d = (l ++ [t / (d + 1)]) ++ dup t d by simp] at hl ⊢
        exact d_two ht d n (l ++ [t / (d + 1)]) _ (by omega) (by omega) (dAr_app ha) hl
      · rw [if_neg (show ¬ (d + 1 ∣ t ∧ d + 1 < t / (d + 1)) from fun q => h2 q.2)] at hl ⊢
        rw [if_pos (e2.mpr (by omega))]
        exact d_two ht d n l dr (by omega) (by omega) ha hl
    · rw [if_neg (show ¬ (d + 1 ∣ t ∧ d + 1 < t / (d + 1)) from fun q => h q.1)] at hl ⊢
      rw [if_neg (fun q => h (e1.mp q))]
      exact d_two ht d n l dr (by omega) (by omega) ha hl
theorem d_one {t mid : Nat} (ht : t ≤ 65535) (hmid : mid ≤ 65535) : ∀ (m d n : Nat) (l : List Nat) (dr : Nat → Int32), d + m = mid + 1 → 1 ≤ d → m + mid + 1 < n → dAr l dr → (l ++ dvs t d m ++ dup t mid).length ≤ 64 → ∃ dr', a_sd_listFor_L33 (zJ (mid : Int)) (zI (t : Int)) n (zI (d : Int)) dr (zI (l.length : Int)) = some (dr', zI ((l ++ dvs t d m ++ dup t mid).length : Int), zJ ((t * t : Nat) : Int)) ∧ dAr (l ++ dvs t d m ++ dup t mid) dr'
  | 0, d, n + 1, l, dr, hd, h1, hn, ha, hl => by
    rw [show dvs t d 0 = [] from rfl, List.append_nil] at hl ⊢
    rw [a_sd_listFor_L33, zJ_int, if_pos ((kI_lt (by omega) (by omega)).mpr (by omega))]
    exact d_two ht mid n l dr hmid (by omega) ha hl
  | m + 1, d, n + 1, l, dr, hd, h1, hn, ha, hl => by
    have e1 := kI_rem (a := t) (b := d) (by omega) (by omega)
    rw [dvs_s] at hl ⊢
    rw [a_sd_listFor_L33, zJ_int, if_neg (by rw [kI_lt (by omega) (by omega)]; omega), if_neg (by rw [show (0 : Int32) = zI ((0 : Nat) : Int) from rfl, kI_eq (by omega) (by omega)]; omega), kI_s]
    by_cases h : d ∣ t
    · rw [if_pos h] at hl ⊢
      rw [if_pos (e1.mpr h)]
      have hl1 : l.length < 64 := by
        rw [List.length_append, List.length_append, List.length_cons] at hl; omega
      rw [d_app hl1, Option.bind_some]
      dsimp only
      rw [show l ++ d :: dvs t (d + 1) m = (l ++ [d]) ++ dvs t (d + 1) m by simp] at hl ⊢
      exact d_one ht hmid m (d + 1) n (l ++ [d]) _ (by omega) (by omega) (by omega) (dAr_app ha) hl
    · rw [if_neg h] at hl ⊢
      rw [if_neg (fun q => h (e1.mp q))]
      exact d_one ht hmid m (d + 1) n l dr (by omega) (by omega) (by omega) ha hl
/-! it is the list of all divisors, the smallest first -/
theorem srt_ext : ∀ (l m : List Nat), l.Pairwise (· < ·) → m.Pairwise (· < ·) → (∀ x, x ∈ l ↔ x ∈ m) → l = m
  | [], [], _, _, _ => rfl
  | [], b :: m, _, _, h => absurd ((h b).mpr List.mem_cons_self) (by simp)
  | a :: l, [], _, _, h => absurd ((h a).mp List.mem_cons_self) (by simp)
  | a :: l, b :: m, h1, h2, h => by
    rw [List.pairwise_cons] at h1 h2
    have hab : a = b := by
      rcases List.mem_cons.mp ((h a).mp List.mem_cons_self) with e | e
      · exact e
      · rcases List.mem_cons.mp ((h b).mpr List.mem_cons_self) with e' | e'
        · exact e'.symm
        · have := h1.1 b e'
          have := h2.1 a e
          omega
    subst hab
    congr 1
    refine srt_ext l m h1.2 h2.2 (fun x => ⟨fun hx => ?_, fun hx => ?_⟩)
    · rcases List.mem_cons.mp ((h x).mp (List.mem_cons_of_mem _ hx)) with e | e
      · have := h1.1 x hx; omega
      · exact e
    · rcases List.mem_cons.mp ((h x).mpr (List.mem_cons_of_mem _ hx)) with e | e
      · have := h2.1 x hx; omega
      · exact e
theorem dvs_mem {t a m x : Nat} : x ∈ dvs t a m ↔ (a ≤ x ∧ x < a + m) ∧ x ∣ t := by
  unfold dvs
  rw [List.mem_filter, List.mem_range'_1, decide_eq_true_eq]
theorem dvs_srt (t a m : Nat) : (dvs t a m).Pairwise (· < ·) := List.Pairwise.sublist List.filter_sublist List.pairwise_lt_range'
theorem dup_mem {t : Nat} (x : Nat) : ∀ d : Nat, x ∈ dup t d ↔ ∃ e, 1 ≤ e ∧ e ≤ d ∧ e ∣ t ∧ e < t / e ∧ x = t / e
  | 0 => ⟨fun h => by simp [dup] at h, fun ⟨e, h1, h2, _⟩ => by omega⟩
  | d + 1 => by
    have ih := dup_mem (t := t) x d
    rw [dup]
    constructor
    · intro h
      split at h
      · rename_i hc
        rcases List.mem_cons.mp h with h1 | h1
        · exact ⟨d + 1, by omega, by omega, hc.1, hc.2, h1⟩
        · obtain ⟨e, a, b, c⟩ := ih.mp h1
          exact ⟨e, a, by omega, c⟩
      · obtain ⟨e, a, b, c⟩ := ih.mp h
        exact ⟨e, a, by omega, c⟩
    · rintro ⟨e, a, b, c1, c2, c3⟩
      by_cases he : e = d + 1
      · subst he
        rw [if_pos ⟨c1, c2⟩, c3]
        exact List.mem_cons_self
      · have := ih.mpr ⟨e, a, by omega, c1, c2, c3⟩
        split
        · exact List.mem_cons_of_mem _ this
        · exact this
theorem dup_srt {t : Nat} (ht : 0 < t) : ∀ d : Nat, (dup t d).Pairwise (· < ·)
  | 0 => List.Pairwise.nil
  | d + 1 => by
    rw [dup]
    split
    · rename_i hc
      rw [List.pairwise_cons]
      refine ⟨fun x hx => ?_, dup_srt ht d⟩
      obtain ⟨e, a, b, c1, c2, c3⟩ := (dup_mem x d).mp hx
      rw [c3]
      obtain ⟨q, hq⟩ := hc.1
      obtain ⟨r, hr⟩ := c1
      have e1 : t / (d + 1) = q := by rw [hq, Nat.mul_div_cancel_left _ (by omega)]
      have e2 : t / e = r := by rw [hr, Nat.mul_div_cancel_left _ (by omega)]
      rw [e1, e2]
      refine Nat.lt_of_not_le fun hle => ?_
      have h3 : e * r ≤ e * q := Nat.mul_le_mul_left e hle
      have h4 : e * q < (d + 1) * q := Nat.mul_lt_mul_of_pos_right (by omega) (by
        rcases Nat.eq_zero_or_pos q with h | h
        · rw [h] at hq; omega
        · exact h)
      omega
    · exact dup_srt ht d
theorem d_all {t mid M : Nat} (ht : 0 < t) (hm : isq t mid) (hM : t ≤ M) : dvs t 1 mid ++ dup t mid = dvs t 1 M := by
  obtain ⟨m1, m2⟩ := hm
  have key : ∀ e, e ∣ t → 0 < e ∧ e ≤ t := fun e he => ⟨Nat.pos_of_dvd_of_pos he ht, Nat.le_of_dvd ht he⟩
  refine srt_ext _ _ ?_ (dvs_srt _ _ _) (fun x => ?_)
  · rw [List.pairwise_append]
    refine ⟨dvs_srt _ _ _, dup_srt ht _, fun a ha b hb => ?_⟩
    obtain ⟨⟨_, a1⟩, _⟩ := dvs_mem.mp ha
    obtain ⟨e, b1, b2, b3, b4, b5⟩ := (dup_mem b mid).mp hb
    obtain ⟨q, hq⟩ := b3
    have e1 : t / e = q := by rw [hq, Nat.mul_div_cancel_left _ (by omega)]
    rw [b5, e1]
    rw [e1] at b4
    refine Nat.lt_of_not_le fun hle => ?_
    have h3 : e * q ≤ mid * q := Nat.mul_le_mul_right q b2
    have h4 : e * q < q * q := Nat.mul_lt_mul_of_pos_right b4 (by omega)
    have h5 : q * q ≤ mid * mid := Nat.mul_le_mul (by omega) (by omega)
    omega
  · rw [List.mem_append, dvs_mem, dvs_mem, dup_mem]
    constructor
    · rintro (⟨⟨a, b⟩, c⟩ | ⟨e, a, b, c1, c2, c3⟩)
      · have := key x c
        exact ⟨⟨a, by omega⟩, c⟩
      · have hx : x ∣ t := by rw [c3]; exact Nat.div_dvd_of_dvd c1
        have := key x hx
        exact ⟨⟨by omega, by omega⟩, hx⟩
    · rintro ⟨⟨a, b⟩, c⟩
      by_cases h : x ≤ mid
      · exact Or.inl ⟨⟨a, by omega⟩, c⟩
      · right
        obtain ⟨q, hq⟩ := c
        have hq0 : 0 < q := by
          rcases Nat.eq_zero_or_pos q with h | h
          · rw [h] at hq; omega
          · exact h
        have e1 : t / q = x := by rw [hq, Nat.mul_div_cancel _ hq0]
        have hqm : q ≤ mid := by
          refine Nat.le_of_not_lt fun hlt => ?_
          have : (mid + 1) * (mid + 1) ≤ x * q := Nat.mul_le_mul (by omega) (by omega)
          omega
        exact ⟨q, hq0, hqm, ⟨x, by rw [hq, Nat.mul_comm]⟩, by rw [e1]; omega, e1.symm⟩
theorem dup_len (t : Nat) : ∀ d : Nat, (dup t d).length ≤ qcnt t d
  | 0 => Nat.le_refl _
  | d + 1 => by
    have ih := dup_len t d
    have e : qcnt t (d + 1) = if t % (d + 1) = 0 then qcnt t d + 1 else qcnt t d := by
      show qB (Nat.beq (Nat.mod t (Nat.succ d)) 0) (Nat.succ (qcnt t d)) (qcnt t d) = _
      rw [qB_eq]
      simp only [qbeq]
      rfl
    rw [dup, e]
    split
    · rename_i hc
      rw [if_pos (Nat.mod_eq_zero_of_dvd hc.1), List.length_cons]
      omega
    · split <;> omega
theorem dvs_cat (t a m n : Nat) : dvs t a (m + n) = dvs t a m ++ dvs t (a + m) n := by
  unfold dvs
  rw [← List.filter_append, List.range'_append_1]
theorem dvs_len (t : Nat) : ∀ m : Nat, (dvs t 1 m).length = qcnt t m
  | 0 => rfl
  | m + 1 => by
    have e : qcnt t (m + 1) = if t % (m + 1) = 0 then qcnt t m + 1 else qcnt t m := by
      show qB (Nat.beq (Nat.mod t (Nat.succ m)) 0) (Nat.succ (qcnt t m)) (qcnt t m) = _
      rw [qB_eq]
      simp only [qbeq]
      rfl
    rw [dvs_cat, List.length_append, dvs_len t m, e, dvs_s, Nat.add_comm 1 m]
    by_cases h : m + 1 ∣ t
    · rw [if_pos h, if_pos (Nat.mod_eq_zero_of_dvd h)]; rfl
    · rw [if_neg h, if_neg (fun q => h (Nat.dvd_of_mod_eq_zero q))]; rfl
/-- the class's list for a number -/
theorem c_list {d t M N : Nat} {D : Int} {dr : Nat → Int32} (hD : D.natAbs = d) (h0 : 0 < d) (hb : d ≤ 892366848) (hs : sdr d t) (ht : t ≤ 32767) (hc : qcnt t (qroot t) ≤ 32) (hM : t ≤ M) (hN : 2000 ≤ N) (hN2 : 2 * M + 2000 ≤ N) : ∃ dr', a_sd_listFor N dr (zJ D) = some (dr', zI ((dvs t 1 M).length : Int), zJ ((t * t : Nat) : Int)) ∧ dAr (dvs t 1 M) dr' ∧ (dvs t 1 M).length ≤ 64 := by
  have t0 : 0 < t := by
    rcases Nat.eq_zero_or_pos t with h | h
    · have := (hs 0).mpr (by rw [h]; exact Nat.dvd_refl 0)
      rw [Nat.zero_mul] at this
      have := Nat.eq_zero_of_zero_dvd this
      omega
    · exact h
  have ha : a_ma_abs (zJ D) = zJ (d : Int) := by
    have e : (0 : Int64) ≤ zJ D ↔ 0 ≤ D := by
      rw [show (0 : Int64) = zJ 0 from rfl]; exact zJ_le (by omega) (by omega) (by omega) (by omega)
    unfold a_ma_abs
    by_cases h : 0 ≤ D
    · rw [if_pos (e.mpr h)]; congr 1; omega
    · rw [if_neg (fun q => h (e.mp q)), zJ_neg]; congr 1; omega
  obtain ⟨t', s1, s2⟩ := c_root h0 hb hN
  have et := sdr_u s1 hs
  subst et
  obtain ⟨mid, m1, m2⟩ := c_floor (g := t') (N := N) (by omega) (by omega)
  have em := isq_u m1 (qroot_ok (g := t') (by omega))
  rw [← em] at hc
  have hmid : mid ≤ t' := by
    have := m1.1
    rcases Nat.eq_zero_or_pos mid with h | h
    · omega
    · have := Nat.le_mul_of_pos_left mid h; omega
  have hall := d_all (M := M) t0 m1 hM
  have hlen : (dvs t' 1 M).length ≤ 64 := by
    rw [← hall, List.length_append, dvs_len]
    have := dup_len t' mid
    omega
  unfold a_sd_listFor
  rw [ha, s2, Option.bind_some, zI_long (by omega) (by omega), m2, Option.bind_some]
  obtain ⟨dr', g1, g2⟩ := d_one (t := t') (mid := mid) (by omega) (by omega) mid 1 N [] dr (by omega) (by omega) (by omega) (fun i hi => by simp at hi) (by rw [List.nil_append, hall]; exact hlen)
  rw [List.nil_append, hall] at g1 g2
  exact ⟨dr', g1, g2, hlen⟩
