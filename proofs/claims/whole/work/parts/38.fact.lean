/-! the facts of every curve -/
theorem qall_i {f : Nat → Bool} : ∀ n : Nat, qall f n = true → ∀ k, k < n → f k = true
  | n + 1, h, k, hk => by
    have h : qB (f n) (qall f n) false = true := h
    rw [qB_eq] at h
    split at h
    · rename_i h1
      by_cases e : k = n
      · rw [e]; exact h1
      · exact qall_i n h k (by omega)
    · cases h
theorem qnth_ex {p : Int × Int} : ∀ l : List (Int × Int), p ∈ l → ∃ i, i < l.length ∧ qnth l i = p
  | q :: l, h => by
    rcases List.mem_cons.mp h with e | e
    · exact ⟨0, Nat.succ_pos _, e.symm⟩
    · obtain ⟨i, h1, h2⟩ := qnth_ex l e
      exact ⟨i + 1, Nat.succ_lt_succ h1, h2⟩
theorem qclo_i {A B : Int} {K : List (Int × Int)} (h : qclo A B K = true) : qDs K ∧ qCl A B K := by
  have hj := qall_i _ h
  have g : ∀ j, j < K.length → qfnd (qnth K j).1 (qnth K j).2 K 1 = j + 1 ∧ ∀ k, k < K.length → qsm A B K (j + 1) (k + 1) ≤ K.length := by
    intro j hjl
    have h1 : qB (Nat.beq (qfnd (qnth K j).1 (qnth K j).2 K 1) (Nat.succ j)) (qall (fun k => Nat.ble (qsm A B K (Nat.succ j) (Nat.succ k)) K.length) K.length) false = true := hj j hjl
    rw [qB_eq] at h1
    split at h1
    · rename_i h2
      exact ⟨(qbeq _ _).mp h2, fun k hk => (qble _ _).mp (qall_i _ h1 k hk)⟩
    · cases h1
  refine ⟨fun k hk => (g k hk).1, fun j k hj hk => ?_⟩
  match j, k, hj, hk with
  | 0, k, hj, hk => rw [qsm_0]; exact hk
  | j + 1, 0, hj, hk => rw [qsm_1]; exact hj
  | j + 1, k + 1, hj, hk => exact (g j (by omega)).2 k (by omega)
theorem qstr_1 (T : Nat → Nat → Nat) : qstr T [1] = true := rfl
theorem qpo_i {A B : Int} {R : List (Int × Int)} (h : qpo A B R = true) : R.length ≤ 17 ∧ qord A B R R 1 = true ∧ qDs (qkp A B R) ∧ qCl A B (qkp A B R) ∧ qstr (qsm A B (qkp A B R)) (1 :: qko A B R) = true := by
  have h : qB (Nat.ble R.length 17) (qB (qord A B R R 1) (@List.rec (Int × Int) (fun _ => Bool) true (fun p l _ => qB (qclo A B (p :: l)) (qstr (qsm A B (p :: l)) (1 :: qko A B R)) false) (qkp A B R)) false) false = true := h
  rw [qB_eq] at h
  split at h
  case isFalse => cases h
  rename_i h1
  rw [qB_eq] at h
  split at h
  case isFalse => cases h
  rename_i h2
  refine ⟨(qble _ _).mp h1, h2, ?_⟩
  have hl := (qk_len A B R).1
  generalize qkp A B R = K at h hl ⊢
  generalize qko A B R = O at h hl ⊢
  match K, h, hl with
  | [], h, hl =>
    have e : O = [] := List.length_eq_zero_iff.mp hl
    rw [e]
    refine ⟨fun k hk => absurd hk (Nat.not_lt_zero _), fun j k hj hk => ?_, qstr_1 _⟩
    have hj : j = 0 := Nat.le_zero.mp hj
    have hk : k = 0 := Nat.le_zero.mp hk
    rw [hj, hk]
    exact Nat.le_refl 0
  | p :: l, h, hl =>
    have h : qB (qclo A B (p :: l)) (qstr (qsm A B (p :: l)) (1 :: O)) false = true := h
    rw [qB_eq] at h
    split at h
    case isFalse => cases h
    rename_i h3
    obtain ⟨a, b⟩ := qclo_i h3
    exact ⟨a, b, h⟩
theorem qFI_eq (a : Int) (f : Int → Bool) : qFI a f = f a := by
  cases a with
  | ofNat n => show qF n (fun m => f (Int.ofNat m)) = _; rw [qF_eq]
  | negSucc n => show qF n (fun m => f (Int.negSucc m)) = _; rw [qF_eq]
theorem qal_i {f : Nat → Bool} : ∀ l : List Nat, qal f l = true → ∀ a ∈ l, f a = true
  | b :: l, h, a, ha => by
    have h : qB (f b) (qal f l) false = true := h
    rw [qB_eq] at h
    split at h
    case isFalse => cases h
    rename_i h1
    rcases List.mem_cons.mp ha with e | e
    · rw [e]; exact h1
    · exact qal_i l h a e
theorem qany_of {f : Nat → Bool} : ∀ (l : List Nat) (a : Nat), a ∈ l → f a = true → qany f l = true
  | b :: l, a, ha, hf => by
    show qB (f b) true (qany f l) = true
    rw [qB_eq]
    split
    · rfl
    · rename_i h1
      rcases List.mem_cons.mp ha with e | e
      · rw [← e] at h1; exact absurd hf h1
      · exact qany_of l a e hf
theorem qfk_i {f : Nat → Bool} {k : List Nat → Bool} : ∀ (l acc : List Nat), qfk f k l acc = true → ∃ m, k m = true ∧ (∀ a ∈ acc, a ∈ m) ∧ ∀ a ∈ l, f a = true → a ∈ m
  | [], acc, h => ⟨acc, h, fun a ha => ha, fun a ha => absurd ha List.not_mem_nil⟩
  | b :: l, acc, h => by
    have h : qB (f b) (qfk f k l (b :: acc)) (qfk f k l acc) = true := h
    rw [qB_eq] at h
    split at h
    · obtain ⟨m, h1, h2, h3⟩ := qfk_i l (b :: acc) h
      refine ⟨m, h1, fun a ha => h2 a (List.mem_cons_of_mem _ ha), fun a ha hf => ?_⟩
      rcases List.mem_cons.mp ha with e | e
      · rw [e]; exact h2 b List.mem_cons_self
      · exact h3 a e hf
    · rename_i h0
      obtain ⟨m, h1, h2, h3⟩ := qfk_i l acc h
      refine ⟨m, h1, h2, fun a ha hf => ?_⟩
      rcases List.mem_cons.mp ha with e | e
      · rw [e] at hf; exact absurd hf h0
      · exact h3 a e hf
theorem qsq_of {c g : Nat} (h1 : g * g ≤ c) (h2 : c ≤ g * g + 48) (h3 : (c - g * g) % 4 = 0) : qsq c g = true := by
  show qB (Nat.ble (g * g) c) (qB (Nat.ble c (g * g + 48)) (Nat.beq ((c - g * g) % 4) 0) false) false = true
  rw [qB_eq, if_pos ((qble _ _).mpr h1), qB_eq, if_pos ((qble _ _).mpr h2)]
  exact (qbeq _ _).mpr h3
theorem qac_of {b g a : Nat} (h1 : (b + a * g) % 2 = 0) (h2 : (36 ≤ b + a * g ∧ b + a * g ≤ 60) ∨ (36 + a * g ≤ b ∧ b ≤ 60 + a * g)) : qac b g a = true := by
  show qB (Nat.beq ((b + a * g) % 2) 0) (qB (qB (Nat.ble 36 (b + a * g)) (Nat.ble (b + a * g) 60) false) true (qB (Nat.ble (36 + a * g) b) (Nat.ble b (60 + a * g)) false)) false = true
  rw [qB_eq, if_pos ((qbeq _ _).mpr h1), qB_eq]
  split
  · rfl
  · rename_i h3
    rcases h2 with ⟨h4, h5⟩ | ⟨h4, h5⟩
    · exact absurd (by rw [qB_eq, if_pos ((qble _ _).mpr h4)]; exact (qble _ _).mpr h5) h3
    · rw [qB_eq, if_pos ((qble _ _).mpr h4)]; exact (qble _ _).mpr h5
theorem I6_mem {g : Nat} (h : g ≤ 6) : g ∈ qI6 := by
  have : ∀ g, g < 7 → g ∈ qI6 := by decide +kernel
  exact this g (by omega)
theorem L43_mem {g : Nat} (h : g ≤ 84) (h2 : g % 4 = 0 ∨ g % 4 = 1) : g ∈ qL43 := by
  have : ∀ g, g < 85 → (g % 4 = 0 ∨ g % 4 = 1) → g ∈ qL43 := by decide +kernel
  exact this g (by omega) h2
theorem L97_mem {g : Nat} (h : g ≤ 96) : g ∈ qL97 := by
  have : ∀ g, g < 97 → g ∈ qL97 := by decide +kernel
  exact this g (by omega)
theorem sq6 {g : Nat} (h : g ≤ 6) : g * g ≤ 36 ∧ (g * g % 4 = 0 ∨ g * g % 4 = 1) := by
  have : ∀ g, g < 7 → g * g ≤ 36 ∧ (g * g % 4 = 0 ∨ g * g % 4 = 1) := by decide +kernel
  exact this g (by omega)
theorem qrw_i {A b c a g : Nat} (h : qrw A b = true) (ha : a ≤ 6) (hg : g ≤ 6) (h1 : qsq A a = true) (h2 : qac b g a = true) (h3 : qsq c g = true) (hc : c ∈ qL43) : qone ((A : Int) - 24) (8 * ((b : Int) - 48)) (16 * ((c : Int) - 24)) = true := by
  have h : qFI ((A : Int) - 24) (fun iA => qFI (8 * ((b : Int) - 48)) (fun iB => qfk (qsq A) (fun as => qfk (fun g => qany (qac b g) as) (fun cs => qal (fun c => qB (qany (qsq c) cs) (qFI (16 * ((c : Int) - 24)) (fun iC => qone iA iB iC)) true) qL43) qI6 []) qI6 [])) = true := h
  rw [qFI_eq, qFI_eq] at h
  obtain ⟨as, h4, -, h5⟩ := qfk_i _ _ h
  obtain ⟨cs, h6, -, h7⟩ := qfk_i _ _ h4
  have h8 : qB (qany (qsq c) cs) (qFI (16 * ((c : Int) - 24)) (fun iC => qone ((A : Int) - 24) (8 * ((b : Int) - 48)) iC)) true = true := qal_i _ h6 c hc
  rw [qB_eq, if_pos (qany_of cs g (h7 g (I6_mem hg) (qany_of as a (h5 a (I6_mem ha) h1) h2)) h3), qFI_eq] at h8
  exact h8
def zEn : Prop := ∀ A ∈ qL43, qal (qrw A) qL97 = true
theorem q_all' (hen : zEn) {p q : Nat} {s r w b d e : Int} (hp : p ≤ 6) (hq : q ≤ 6) (es : ((p * p : Nat) : Int) = s) (er : ((q * q : Nat) : Int) = r) (ew : w.natAbs = p * q) (hb : -6 ≤ b ∧ b ≤ 6) (hd : -6 ≤ d ∧ d ≤ 6) (he : -6 ≤ e ∧ e ≤ 6) : zR (s + 4 * b) (16 * d + 8 * w) (16 * r + 64 * e) ∧ qone (s + 4 * b) (16 * d + 8 * w) (16 * r + 64 * e) = true := by
  have gp := sq6 hp
  have gq := sq6 hq
  have gw : p * q ≤ 36 := Nat.mul_le_mul hp hq
  refine ⟨⟨by omega, by omega, by omega, by omega, by omega, by omega⟩, ?_⟩
  have h := qrw_i (A := p * p + 4 * (b + 6).toNat) (b := (2 * d + w + 48).toNat) (c := q * q + 4 * (e + 6).toNat) (a := p) (g := q) (qal_i _ (hen _ (L43_mem (by omega) (by omega))) _ (L97_mem (by omega))) hp hq (qsq_of (by omega) (by omega) (by omega)) (qac_of (by omega) (by omega)) (qsq_of (by omega) (by omega) (by omega)) (L43_mem (by omega) (by omega))
  have e1 : ((p * p + 4 * (b + 6).toNat : Nat) : Int) - 24 = s + 4 * b := by omega
  have e2 : 8 * (((2 * d + w + 48).toNat : Int) - 48) = 16 * d + 8 * w := by omega
  have e3 : 16 * (((q * q + 4 * (e + 6).toNat : Nat) : Int) - 24) = 16 * r + 64 * e := by omega
  rw [e1, e2, e3] at h
  exact h
/-- what holds of a curve that is not refused -/
def qFx (A B C : Int) (t : Nat) : Prop := zR A B C ∧ qD A B C ≠ 0 ∧ (qD A B C).natAbs ≤ 892366848 ∧ sdr (qD A B C).natAbs t ∧ 0 < t ∧ t * t ≤ 892366848 ∧ t ≤ 32767 ∧ qcnt t (qroot t) ≤ 32 ∧ (raw t A B C).length ≤ 17 ∧ qord A B (raw t A B C) (raw t A B C) 1 = true ∧ (∀ p ∈ raw t A B C, qch A B p.1 p.2 12 p.1 p.2 1 ≠ 99) ∧ qGd A B (qkp A B (raw t A B C)) (1 :: qko A B (raw t A B C)) ∧ qstr (qsm A B (qkp A B (raw t A B C))) (1 :: qko A B (raw t A B C)) = true
theorem q_fx {A B C : Int} (hR : zR A B C) (h : qone A B C = true) (h0 : qD A B C ≠ 0) : ∃ t, qFx A B C t := by
  obtain ⟨h1, t, h2, h3, h4, h5, h6⟩ := qone_i hR h h0
  obtain ⟨g1, g2, g3, g4, g5⟩ := qpo_i h6
  have ht : t ≤ 32767 := by
    by_cases e : t ≤ 32767
    · exact e
    · have := sq_b (show 32768 ≤ t by omega); omega
  have h9 : ∀ p ∈ raw t A B C, qch A B p.1 p.2 12 p.1 p.2 1 ≠ 99 := by
    intro p hp
    obtain ⟨i, a, b⟩ := qnth_ex _ hp
    have := (qord_i _ 1 g2 i a).1
    rw [b] at this
    exact this
  have hl := qk_len A B (raw t A B C)
  have hm : ∀ p ∈ qkp A B (raw t A B C), p.1.natAbs ≤ 5000 ∧ p.2.natAbs ≤ 4000000 := fun p hp => raw_mem h3 ht (qkp_mem A B _ hp)
  obtain ⟨r1, r2, r3, r4, r5, r6⟩ := hR
  refine ⟨t, ⟨r1, r2, r3, r4, r5, r6⟩, h0, h1, h2, h3, h4, ht, h5, g1, g2, h9, ⟨by omega, by omega, by omega, qRg_of hm, g3, g4, by rw [List.length_cons]; omega, ?_, rfl⟩, g5⟩
  intro o ho
  rcases List.mem_cons.mp ho with e | e
  · omega
  · exact qko_b A B _ h9 o e
