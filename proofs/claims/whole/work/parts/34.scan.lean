/-! the points that both sides look at -/
def zG (A B C x : Int) : Int := ((x + A) * x + B) * x + C
noncomputable def pat (t : Nat) (A B C x : Int) : List (Int × Int) :=
  if zG A B C x = 0 then [(x, 0)] else if ((qroot (zG A B C x).toNat * qroot (zG A B C x).toNat : Nat) : Int) = zG A B C x ∧ qroot (zG A B C x).toNat ∣ t then [(x, -(qroot (zG A B C x).toNat : Int)), (x, (qroot (zG A B C x).toNat : Int))] else []
noncomputable def pats (t : Nat) (A B C : Int) : Int → Nat → List (Int × Int)
  | _, 0 => []
  | x, n + 1 => pat t A B C x ++ pats t A B C (x + 1) n
theorem pat_0 {t : Nat} {A B C x : Int} (h : zG A B C x = 0) : pat t A B C x = [(x, 0)] := by
  unfold pat; rw [if_pos h]
theorem pat_1 {t y : Nat} {A B C x : Int} (h0 : 0 < y) (h1 : ((y * y : Nat) : Int) = zG A B C x) (h2 : y ∣ t) (h3 : y ≤ 65535) : pat t A B C x = [(x, -(y : Int)), (x, (y : Int))] := by
  have hy : y * y ≤ 65535 * 65535 := sq_b h3
  have hy0 : 0 < y * y := Nat.mul_pos h0 h0
  have e : (zG A B C x).toNat = y * y := by omega
  have er : qroot (y * y) = y := isq_u (qroot_ok (by omega)) (isq_sq y)
  unfold pat
  rw [if_neg (by omega), e, er, if_pos ⟨h1, h2⟩]
theorem pat_n {t : Nat} {A B C x : Int} (h0 : zG A B C x ≠ 0) (h : ∀ y : Nat, 0 < y → ((y * y : Nat) : Int) = zG A B C x → ¬ y ∣ t) : pat t A B C x = [] := by
  unfold pat
  rw [if_neg h0, if_neg]
  rintro ⟨h1, h2⟩
  refine h _ (Nat.pos_of_ne_zero fun hz => ?_) h1 h2
  rw [hz] at h1
  exact h0 h1.symm
theorem pat_neg {t : Nat} {A B C x : Int} (h : zG A B C x < 0) : pat t A B C x = [] := pat_n (by omega) (fun y _ h1 => by omega)
theorem pat_big {t : Nat} {A B C x : Int} (ht : 0 < t) (h : ((t * t : Nat) : Int) < zG A B C x) : pat t A B C x = [] := by
  refine pat_n (by omega) (fun y h0 h1 h2 => ?_)
  have := sq_b (Nat.le_of_dvd ht h2)
  omega
theorem pats_app (t : Nat) (A B C : Int) : ∀ (m n : Nat) (x : Int), pats t A B C x (m + n) = pats t A B C x m ++ pats t A B C (x + m) n
  | 0, n, x => by rw [Nat.zero_add, show x + ((0 : Nat) : Int) = x by omega]; rfl
  | m + 1, n, x => by
    rw [show m + 1 + n = (m + n) + 1 by omega, pats, pats, pats_app t A B C m n (x + 1), List.append_assoc, show x + 1 + (m : Int) = x + ((m + 1 : Nat) : Int) by omega]
theorem pats_nil {t : Nat} {A B C : Int} : ∀ (n : Nat) (x : Int), (∀ i : Nat, i < n → pat t A B C (x + i) = []) → pats t A B C x n = []
  | 0, x, _ => rfl
  | n + 1, x, h => by
    have h1 := h 0 (by omega)
    rw [show x + ((0 : Nat) : Int) = x by omega] at h1
    rw [pats, h1, pats_nil n (x + 1) (fun i hi => by have := h (i + 1) (by omega); rw [show x + ((i + 1 : Nat) : Int) = x + 1 + i by omega] at this; exact this)]
    rfl
def zR (A B C : Int) : Prop := -24 ≤ A ∧ A ≤ 60 ∧ -384 ≤ B ∧ B ≤ 384 ∧ -384 ≤ C ∧ C ≤ 960
theorem zG_neg {A B C x : Int} (h : zR A B C) (hx : x ≤ -71) : zG A B C x < 0 := by
  obtain ⟨a1, a2, b1, b2, c1, c2⟩ := h
  have h1 : 11 * 71 ≤ (-(x + A)) * (-x) := Int.mul_le_mul (by omega) (by omega) (by omega) (by omega)
  rw [Int.neg_mul_neg] at h1
  have h2 : 397 * 71 ≤ ((x + A) * x + B) * (-x) := Int.mul_le_mul (by omega) (by omega) (by omega) (by omega)
  rw [Int.mul_neg] at h2
  unfold zG
  omega
theorem zG_up {A B C x : Int} (h : zR A B C) (hx : 23 ≤ x) : zG A B C x < zG A B C (x + 1) := by
  obtain ⟨a1, a2, b1, b2, c1, c2⟩ := h
  have h1 : 24 * 23 ≤ (3 * x + 3 + 2 * A) * x := Int.mul_le_mul (by omega) (by omega) (by omega) (by omega)
  have h2 : zG A B C (x + 1) = zG A B C x + ((3 * x + 3 + 2 * A) * x + (A + B + 1)) := by unfold zG; grind
  omega
theorem zG_ups {A B C x : Int} (h : zR A B C) (hx : 23 ≤ x) : ∀ n : Nat, zG A B C x ≤ zG A B C (x + n)
  | 0 => by rw [show x + ((0 : Nat) : Int) = x by omega]; omega
  | n + 1 => by
    have := zG_ups h hx n
    have h2 := zG_up (x := x + n) h (by omega)
    rw [show x + (n : Int) + 1 = x + ((n + 1 : Nat) : Int) by omega] at h2
    omega
theorem pats_big {t : Nat} {A B C x : Int} (h : zR A B C) (ht : 0 < t) (hx : 23 ≤ x) (hb : ((t * t : Nat) : Int) < zG A B C x) (n : Nat) : pats t A B C x n = [] :=
  pats_nil n x (fun i _ => pat_big ht (Int.lt_of_lt_of_le hb (zG_ups h hx i)))
theorem zG_1000 {A B C : Int} (h : zR A B C) : 892366848 < zG A B C 1000 := by
  obtain ⟨a1, a2, b1, b2, c1, c2⟩ := h
  unfold zG
  omega
theorem pats_low {t : Nat} {A B C x : Int} (h : zR A B C) (n : Nat) (hx : x + n ≤ -70) : pats t A B C x n = [] :=
  pats_nil n x (fun i hi => pat_neg (zG_neg h (by omega)))
/-- all points that are looked at -/
noncomputable def raw (t : Nat) (A B C : Int) : List (Int × Int) := pats t A B C (-120) 1621
theorem raw_r {t : Nat} {A B C : Int} (h : zR A B C) (ht : 0 < t) (hb : t * t ≤ 892366848) : raw t A B C = pats t A B C (-70) 1071 := by
  unfold raw
  rw [show (1621 : Nat) = 50 + (1071 + 500) from rfl, pats_app, pats_low h 50 (by decide), List.nil_append, pats_app, pats_big h ht (x := -120 + ((50 : Nat) : Int) + ((1071 : Nat) : Int)) (by decide) (by have := zG_1000 h; have := zG_up (x := 1000) h (by decide); show _ < zG A B C (1000 + 1); omega) 500, List.append_nil]
  rfl
theorem raw_q {t : Nat} {A B C : Int} (h : zR A B C) (ht : 0 < t) {k : Nat} (hk : 94 ≤ k) (hk2 : k ≤ 1071) (hb : ((t * t : Nat) : Int) < zG A B C (k - 71)) : raw t A B C = pats t A B C (-71) k := by
  unfold raw
  rw [show (1621 : Nat) = 49 + (k + (1572 - k)) by omega, pats_app, pats_low h 49 (by decide), List.nil_append, pats_app, pats_big h ht (x := -120 + ((49 : Nat) : Int) + (k : Int)) (by omega) (by rw [show -120 + ((49 : Nat) : Int) + (k : Int) = k - 71 by omega]; exact hb), List.append_nil]
  rfl
/-! the check's scan -/
def zPs (A B C : Int) (P2 P1 P0 : Nat) : Prop := (P2 : Int) = 213 - A ∧ (P1 : Int) = 15123 - 142 * A + B ∧ (P0 : Int) = 357911 - 5041 * A + 71 * B - C
theorem zPs_G {A B C : Int} {P2 P1 P0 : Nat} (h : zPs A B C P2 P1 P0) (k : Nat) : zG A B C (k - 71) = ((k * (k * k + P1) : Nat) : Int) - ((P2 * (k * k) + P0 : Nat) : Int) := by
  obtain ⟨h1, h2, h3⟩ := h
  unfold zG
  push_cast
  rw [h1, h2, h3]
  grind
theorem qscan_s (P2 P1 P0 T k : Nat) : qscan P2 P1 P0 T (k + 1) = if T % (k * (k * k + P1) - (P2 * (k * k) + P0)) = 0 ∨ k * (k * k + P1) = P2 * (k * k) + P0 then k :: qscan P2 P1 P0 T k else qscan P2 P1 P0 T k := by
  show qB (Nat.beq (Nat.mod T (Nat.sub (Nat.mul k (Nat.add (Nat.mul k k) P1)) (Nat.add (Nat.mul P2 (Nat.mul k k)) P0))) 0) (k :: qscan P2 P1 P0 T k) (qB (Nat.beq (Nat.mul k (Nat.add (Nat.mul k k) P1)) (Nat.add (Nat.mul P2 (Nat.mul k k)) P0)) (k :: qscan P2 P1 P0 T k) (qscan P2 P1 P0 T k)) = _
  simp only [qB_eq, qbeq]
  show (if T % (k * (k * k + P1) - (P2 * (k * k) + P0)) = 0 then k :: qscan P2 P1 P0 T k else if k * (k * k + P1) = P2 * (k * k) + P0 then k :: qscan P2 P1 P0 T k else qscan P2 P1 P0 T k) = _
  split
  · rename_i h; rw [if_pos (Or.inl h)]
  · rename_i h
    split
    · rename_i h2; rw [if_pos (Or.inr h2)]
    · rename_i h2; rw [if_neg (by rintro (h3 | h3); exact h h3; exact h2 h3)]
theorem qpt_e (t P2 P1 P0 k : Nat) : qpt t P2 P1 P0 k = if k * (k * k + P1) - (P2 * (k * k) + P0) = 0 then [((k : Int) - 71, 0)] else if qroot (k * (k * k + P1) - (P2 * (k * k) + P0)) * qroot (k * (k * k + P1) - (P2 * (k * k) + P0)) = k * (k * k + P1) - (P2 * (k * k) + P0) then (if t % qroot (k * (k * k + P1) - (P2 * (k * k) + P0)) = 0 then [((k : Int) - 71, -(qroot (k * (k * k + P1) - (P2 * (k * k) + P0)) : Int)), ((k : Int) - 71, (qroot (k * (k * k + P1) - (P2 * (k * k) + P0)) : Int))] else []) else [] := by
  unfold qpt
  simp only [qB_eq, qbeq]
  rfl
theorem qpts_ok {t P2 P1 P0 : Nat} {A B C : Int} (h : zPs A B C P2 P1 P0) (ht : 0 < t) : ∀ k : Nat, qpts t P2 P1 P0 (qscan P2 P1 P0 (t * t) k) = pats t A B C (-71) k
  | 0 => rfl
  | k + 1 => by
    have ih := qpts_ok h ht k
    have hG := zPs_G h k
    rw [pats_app t A B C k 1, ← ih, show (-71 : Int) + k = k - 71 by omega, show pats t A B C ((k : Int) - 71) 1 = pat t A B C (k - 71) by rw [pats, pats, List.append_nil], qscan_s]
    have hq := qpt_e t P2 P1 P0 k
    generalize k * (k * k + P1) = p at hG hq ⊢
    generalize P2 * (k * k) + P0 = q at hG hq ⊢
    by_cases hc : t * t % (p - q) = 0 ∨ p = q
    · rw [if_pos hc]
      show qpts t P2 P1 P0 (qscan P2 P1 P0 (t * t) k) ++ qpt t P2 P1 P0 k = _
      congr 1
      rw [hq]
      by_cases he : p = q
      · rw [if_pos (by omega), pat_0 (by rw [hG]; omega)]
      · rcases hc with hc | hc
        · have hv : p - q ≠ 0 := by
            intro hz
            rw [hz, Nat.mod_zero] at hc
            have := Nat.mul_pos ht ht
            omega
          have hz : (zG A B C ((k : Int) - 71)).toNat = p - q := by rw [hG]; omega
          rw [if_neg hv]
          unfold pat
          rw [hz, if_neg (show ¬ zG A B C ((k : Int) - 71) = 0 by rw [hG]; omega)]
          by_cases h1 : qroot (p - q) * qroot (p - q) = p - q
          · rw [if_pos h1]
            by_cases h2 : t % qroot (p - q) = 0
            · rw [if_pos h2, if_pos ⟨by rw [hG]; omega, Nat.dvd_of_mod_eq_zero h2⟩]
            · rw [if_neg h2, if_neg (fun h => h2 (Nat.mod_eq_zero_of_dvd h.2))]
          · rw [if_neg h1, if_neg (fun h => h1 (by have := h.1; rw [hG] at this; omega))]
        · exact absurd hc he
    · have hpn : pat t A B C ((k : Int) - 71) = [] := by
        refine pat_n (by rw [hG]; omega) (fun y h0 h1 h2 => hc (Or.inl ?_))
        have hv : p - q = y * y := by rw [hG] at h1; omega
        rw [hv]
        exact Nat.mod_eq_zero_of_dvd (Nat.mul_dvd_mul h2 h2)
      rw [if_neg hc, hpn, List.append_nil]
theorem qtop_i {P2 P1 P0 T : Nat} {f : Nat → Bool} : ∀ l : List Nat, qtop P2 P1 P0 T l f = true → ∃ k, k ∈ l ∧ P2 * (k * k) + P0 + T < k * (k * k + P1) ∧ f k = true
  | [], h => by cases h
  | k :: l, h => by
    have h : qB (Nat.ble (Nat.mul k (Nat.add (Nat.mul k k) P1)) (Nat.add (Nat.add (Nat.mul P2 (Nat.mul k k)) P0) T)) (qtop P2 P1 P0 T l f) (f k) = true := h
    rw [qB_eq] at h
    split at h
    · obtain ⟨k', a, b⟩ := qtop_i l h
      exact ⟨k', List.mem_cons_of_mem _ a, b⟩
    · rename_i hn
      rw [qble] at hn
      have hn : ¬ k * (k * k + P1) ≤ P2 * (k * k) + P0 + T := hn
      exact ⟨k, List.mem_cons_self, by omega, h⟩
theorem qOL_b : ∀ k ∈ qOL, 94 ≤ k ∧ k ≤ 1071 := by decide +kernel
theorem qpar_i {A B C : Int} {f : Nat → Nat → Nat → Bool} (hR : zR A B C) (h : qpar A B C f = true) : ∃ P2 P1 P0, zPs A B C P2 P1 P0 ∧ f P2 P1 P0 = true := by
  obtain ⟨a1, a2, b1, b2, c1, c2⟩ := hR
  unfold qpar at h
  rw [qF_eq, qF_eq, qF_eq] at h
  have h : f (213 - A).toNat (15123 - 142 * A + B).toNat (357911 - 5041 * A + 71 * B - C).toNat = true := h
  exact ⟨_, _, _, ⟨by omega, by omega, by omega⟩, h⟩
theorem qD_e (A B C : Int) : qD A B C = A * A * B * B - 4 * B * B * B - 4 * A * A * A * C - 27 * C * C + 18 * A * B * C := by
  show A * (A * (B * B - 4 * (A * C))) + (B * (18 * (A * C) - 4 * (B * B)) - 27 * (C * C)) = _
  grind
/-- what the check of a curve says -/
theorem qone_i {A B C : Int} (hR : zR A B C) (h : qone A B C = true) (h0 : qD A B C ≠ 0) : (qD A B C).natAbs ≤ 892366848 ∧ ∃ t : Nat, sdr (qD A B C).natAbs t ∧ 0 < t ∧ t * t ≤ 892366848 ∧ qcnt t (qroot t) ≤ 32 ∧ qpo A B (raw t A B C) = true := by
  unfold qone at h
  rw [qF_eq, qB_eq, if_neg (by rw [qbeq]; omega), qB_eq] at h
  split at h
  case isFalse => cases h
  rename_i h1
  rw [qble] at h1
  rw [qB_eq] at h
  split at h
  case isFalse => cases h
  rename_i h2
  rw [qbeq] at h2
  rw [qF_eq, qB_eq] at h
  split at h
  case isFalse => cases h
  rename_i h3
  rw [qble] at h3
  have hs := qtr_sdr (n := (qD A B C).natAbs) (by omega) h1 h2
  generalize qtr qPL (qD A B C).natAbs = t at h h3 hs
  have t0 : 0 < t := by
    rcases Nat.eq_zero_or_pos t with h | h
    · have := (hs 0).mpr (by rw [h]; exact Nat.dvd_refl 0)
      rw [Nat.zero_mul] at this
      have := Nat.eq_zero_of_zero_dvd this
      omega
    · exact h
  have htt : t * t ≤ 892366848 := Nat.le_trans (Nat.le_of_dvd (by omega) ((hs t).mpr (Nat.dvd_refl t))) h1
  rw [qF_eq] at h
  obtain ⟨P2, P1, P0, hP, h⟩ := qpar_i hR h
  obtain ⟨k, k1, k2, h⟩ := qtop_i qOL h
  obtain ⟨k3, k4⟩ := qOL_b k k1
  refine ⟨h1, t, hs, t0, htt, h3, ?_⟩
  have k2 : P2 * (k * k) + P0 + t * t < k * (k * k + P1) := k2
  have h : qpo A B (qpts t P2 P1 P0 (qscan P2 P1 P0 (t * t) k)) = true := h
  rw [raw_q hR t0 k3 k4 (by rw [zPs_G hP]; omega), ← qpts_ok hP t0]
  exact h
