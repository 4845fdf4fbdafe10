/-! orders and what is kept, by the class -/
theorem qkp_c (A B : Int) (p : Int × Int) (l : List (Int × Int)) : qkp A B (p :: l) = if qch A B p.1 p.2 12 p.1 p.2 1 = 0 then qkp A B l else p :: qkp A B l := by
  show qB (Nat.beq (qch A B p.1 p.2 12 p.1 p.2 1) 0) (qkp A B l) (p :: qkp A B l) = _
  simp only [qB_eq, qbeq]
theorem qko_c (A B : Int) (p : Int × Int) (l : List (Int × Int)) : qko A B (p :: l) = if qch A B p.1 p.2 12 p.1 p.2 1 = 0 then qko A B l else qch A B p.1 p.2 12 p.1 p.2 1 :: qko A B l := by
  show qB (Nat.beq (qch A B p.1 p.2 12 p.1 p.2 1) 0) (qko A B l) (qch A B p.1 p.2 12 p.1 p.2 1 :: qko A B l) = _
  simp only [qB_eq, qbeq]
theorem qkp_app (A B : Int) (m : List (Int × Int)) : ∀ l : List (Int × Int), qkp A B (l ++ m) = qkp A B l ++ qkp A B m
  | [] => rfl
  | p :: l => by
    rw [List.cons_append, qkp_c, qkp_c, qkp_app A B m l]
    split <;> rfl
theorem qko_app (A B : Int) (m : List (Int × Int)) : ∀ l : List (Int × Int), qko A B (l ++ m) = qko A B l ++ qko A B m
  | [] => rfl
  | p :: l => by
    rw [List.cons_append, qko_c, qko_c, qko_app A B m l]
    split <;> rfl
theorem qk_len (A B : Int) : ∀ l : List (Int × Int), (qko A B l).length = (qkp A B l).length ∧ (qkp A B l).length ≤ l.length
  | [] => ⟨rfl, Nat.le_refl _⟩
  | p :: l => by
    obtain ⟨h1, h2⟩ := qk_len A B l
    rw [qkp_c, qko_c, List.length_cons]
    split
    · exact ⟨h1, by omega⟩
    · rw [List.length_cons, List.length_cons]; exact ⟨by omega, by omega⟩
theorem qkp_mem (A B : Int) {q : Int × Int} : ∀ l : List (Int × Int), q ∈ qkp A B l → q ∈ l
  | p :: l, h => by
    rw [qkp_c] at h
    split at h
    · exact List.mem_cons_of_mem _ (qkp_mem A B l h)
    · rcases List.mem_cons.mp h with h | h
      · rw [h]; exact List.mem_cons_self
      · exact List.mem_cons_of_mem _ (qkp_mem A B l h)
theorem qch_b (A B u v : Int) : ∀ (f : Nat) (x y : Int) (n : Nat), qch A B u v f x y n = 0 ∨ qch A B u v f x y n = 99 ∨ (n + 1 ≤ qch A B u v f x y n ∧ qch A B u v f x y n ≤ n + f)
  | 0, _, _, _ => Or.inl rfl
  | f + 1, x, y, n => by
    have ih := qch_b A B u v f (qadd A B x y u v).2.1 (qadd A B x y u v).2.2 (n + 1)
    rw [qch_s]
    split
    · split
      · split
        · omega
        · exact Or.inr (Or.inl rfl)
      · exact Or.inl rfl
    · split
      · right; right; omega
      · split
        · exact Or.inl rfl
        · exact Or.inr (Or.inl rfl)
theorem qko_b (A B : Int) : ∀ l : List (Int × Int), (∀ p ∈ l, qch A B p.1 p.2 12 p.1 p.2 1 ≠ 99) → ∀ o ∈ qko A B l, 1 ≤ o ∧ o ≤ 13
  | [], _, o, h => by cases h
  | p :: l, hl, o, h => by
    rw [qko_c] at h
    have ih := qko_b A B l (fun q hq => hl q (List.mem_cons_of_mem _ hq)) o
    have hb := qch_b A B p.1 p.2 12 p.1 p.2 1
    have h9 := hl p List.mem_cons_self
    split at h
    · exact ih h
    · rcases List.mem_cons.mp h with h | h
      · omega
      · exact ih h
theorem qnth_mem : ∀ (l : List (Int × Int)) (i : Nat), i < l.length → qnth l i ∈ l
  | p :: l, 0, _ => List.mem_cons_self
  | p :: l, i + 1, h => List.mem_cons_of_mem _ (qnth_mem l i (Nat.lt_of_succ_lt_succ h))
theorem qord_i {A B : Int} {R : List (Int × Int)} : ∀ (l : List (Int × Int)) (k : Nat), qord A B R l k = true → ∀ i : Nat, i < l.length → qch A B (qnth l i).1 (qnth l i).2 12 (qnth l i).1 (qnth l i).2 1 ≠ 99 ∧ qoc A B R (k + i) 12 (k + i) 1 = qch A B (qnth l i).1 (qnth l i).2 12 (qnth l i).1 (qnth l i).2 1
  | p :: l, k, h, i, hi => by
    have h : qF (qch A B p.1 p.2 12 p.1 p.2 1) (fun n => qB (Nat.beq n 99) false (qB (Nat.beq (qoc A B R k 12 k 1) n) (qord A B R l (Nat.succ k)) false)) = true := h
    rw [qF_eq, qB_eq] at h
    split at h
    · cases h
    · rename_i h1
      rw [qB_eq] at h
      split at h
      · rename_i h2
        rw [qbeq] at h1 h2
        match i with
        | 0 => exact ⟨h1, h2⟩
        | i + 1 =>
          have := qord_i l (k + 1) h i (Nat.lt_of_succ_lt_succ hi)
          rw [show k + 1 + i = k + (i + 1) by omega] at this
          exact this
      · cases h
theorem c_ords {A B : Int} {R : List (Int × Int)} {xs ys : Nat → Int32} (hA : A.natAbs ≤ 100) (hB : B.natAbs ≤ 1000) (hR : R.length ≤ 31) (ha : qAr 1 R xs ys) (hr : qRg R) : ∀ (m k n : Nat) (os : Nat → Int32), k + m = R.length + 1 → m + 200 ≤ n → (∀ i : Nat, i < k → os i = qio (qoc A B R i 12 i 1)) → ∃ (os' : Nat → Int32) (n' : Nat), 100 ≤ n' ∧ (∀ i : Nat, i ≤ R.length → os' i = qio (qoc A B R i 12 i 1)) ∧ a_fp_search_L8 (zJ A) (zJ B) (zI ((R.length + 1 : Nat) : Int)) xs ys n os (zI (k : Int)) = (a_fp_keepFinite n' (zI ((R.length + 1 : Nat) : Int)) xs ys os').bind (fun (o1, o2, o3, o0) => some (o1, o2, o3, o0))
  | 0, k, n + 1, os, hk, hn, ho => by
    refine ⟨os, n, by omega, fun i hi => ho i (by omega), ?_⟩
    rw [a_fp_search_L8, if_pos ((kI_le (by omega) (by omega)).mpr (by omega))]
  | m + 1, k, n + 1, os, hk, hn, ho => by
    have e := c_ord (k := k) hA hB hR ha hr (by omega) 12 1 k n (by omega) (by omega) (by omega) (Or.inl (by omega))
    rw [qi, if_neg (by omega)] at e
    rw [a_fp_search_L8, if_neg (by rw [kI_le (by omega) (by omega)]; omega), a_fp_orderOf, show (1 : Int32) = zI ((1 : Nat) : Int) from rfl, e, Option.bind_some, if_neg (kI_bad (by omega) (by omega)), kI_nat (by omega), show zI ((1 : Nat) : Int) = 1 from rfl, kI_s]
    refine c_ords hA hB hR ha hr m (k + 1) n _ (by omega) (by omega) (fun i hi => ?_)
    unfold upd
    by_cases he : i = k
    · rw [if_pos he, he]
    · rw [if_neg he]; exact ho i (by omega)
  | 0, _, 0, _, _, hn, _ => by omega
  | m + 1, _, 0, _, _, hn, _ => by omega
theorem c_keep {A B : Int} {M : Nat} (hM : M ≤ 32) : ∀ (l : List (Int × Int)) (k j n : Nat) (a1 a2 a3 : Nat → Int32), k + l.length = M → j ≤ k → l.length < n → qAr k l a1 a2 → (∀ i : Nat, i < l.length → a3 (k + i) = qio (qch A B (qnth l i).1 (qnth l i).2 12 (qnth l i).1 (qnth l i).2 1)) → ∃ a1' a2' a3', a_fp_keepFinite_L4 (zI (M : Int)) n (zI (k : Int)) a1 a2 a3 (zI (j : Int)) = some (a1', a2', a3', zI ((j + (qkp A B l).length : Nat) : Int)) ∧ (∀ i : Nat, i < j → a1' i = a1 i ∧ a2' i = a2 i ∧ a3' i = a3 i) ∧ qAr j (qkp A B l) a1' a2' ∧ qOa j (qko A B l) a3'
  | [], k, j, n + 1, a1, a2, a3, hk, hj, _, _, _ => by
    refine ⟨a1, a2, a3, ?_, fun i _ => ⟨rfl, rfl, rfl⟩, fun i hi => absurd hi (Nat.not_lt_zero _), fun i hi => absurd hi (Nat.not_lt_zero _)⟩
    have hk : k = M := by simpa using hk
    rw [a_fp_keepFinite_L4, if_pos ((kI_le (by omega) (by omega)).mpr (by omega))]
    rfl
  | p :: l, k, j, n + 1, a1, a2, a3, hk, hj, hn, ha, ho => by
    have hl : (p :: l).length = l.length + 1 := rfl
    obtain ⟨p1, p2⟩ := qAr_h ha
    have p3 : a3 k = qio (qch A B p.1 p.2 12 p.1 p.2 1) := ho 0 (Nat.succ_pos _)
    have ho' : ∀ i : Nat, i < l.length → a3 (k + 1 + i) = qio (qch A B (qnth l i).1 (qnth l i).2 12 (qnth l i).1 (qnth l i).2 1) := fun i hi => by
      have := ho (i + 1) (Nat.succ_lt_succ hi)
      rw [show k + (i + 1) = k + 1 + i by omega] at this
      exact this
    have hb := qch_b A B p.1 p.2 12 p.1 p.2 1
    rw [a_fp_keepFinite_L4, if_neg (by rw [kI_le (by omega) (by omega)]; omega), if_neg (kI_bad (by omega) (by omega)), kI_nat (by omega), kI_s, qkp_c, qko_c, p3]
    by_cases h0 : qch A B p.1 p.2 12 p.1 p.2 1 = 0
    · rw [if_pos h0, if_pos h0, if_pos (by rw [h0]; rfl)]
      exact c_keep hM l (k + 1) j n a1 a2 a3 (by omega) (by omega) (by omega) (qAr_t ha) ho'
    · have hne : qio (qch A B p.1 p.2 12 p.1 p.2 1) = zI (qch A B p.1 p.2 12 p.1 p.2 1 : Int) := by rw [qio, if_neg h0]
      rw [if_neg h0, if_neg h0, hne, if_neg (by rw [show (-1 : Int32) = zI (-1) from rfl, zI_eq (by omega) (by omega) (by omega) (by omega)]; omega), if_neg (kI_bad (by omega) (by omega)), kI_nat (by omega : j ≤ 2147483647), kI_s, p1, p2]
      obtain ⟨b1, b2, b3, g1, g2, g3, g4⟩ := c_keep (A := A) (B := B) hM l (k + 1) (j + 1) n (upd a1 j (zI p.1)) (upd a2 j (zI p.2)) (upd a3 j (zI (qch A B p.1 p.2 12 p.1 p.2 1 : Int))) (by omega) (by omega) (by omega) (fun i hi => by unfold upd; rw [if_neg (by omega), if_neg (by omega)]; exact qAr_t ha i hi) (fun i hi => by unfold upd; rw [if_neg (by omega)]; exact ho' i hi)
      refine ⟨b1, b2, b3, by rw [g1, List.length_cons]; congr 5; omega, fun i hi => ?_, fun i hi => ?_, fun i hi => ?_⟩
      · obtain ⟨c1, c2, c3⟩ := g2 i (by omega)
        rw [c1, c2, c3]
        unfold upd
        rw [if_neg (by omega), if_neg (by omega), if_neg (by omega)]
        exact ⟨rfl, rfl, rfl⟩
      · match i with
        | 0 =>
          obtain ⟨c1, c2, c3⟩ := g2 j (by omega)
          rw [Nat.add_zero, c1, c2]
          unfold upd
          rw [if_pos rfl, if_pos rfl]
          exact ⟨rfl, rfl⟩
        | i + 1 =>
          have := g3 i (Nat.lt_of_succ_lt_succ hi)
          rw [show j + 1 + i = j + (i + 1) by omega] at this
          exact this
      · match i with
        | 0 =>
          obtain ⟨c1, c2, c3⟩ := g2 j (by omega)
          rw [Nat.add_zero, c3]
          unfold upd
          rw [if_pos rfl]
          rfl
        | i + 1 =>
          have := g4 i (Nat.lt_of_succ_lt_succ hi)
          rw [show j + 1 + i = j + (i + 1) by omega] at this
          exact this
theorem pats_mem {t : Nat} {A B C : Int} {p : Int × Int} : ∀ (n : Nat) (x : Int), p ∈ pats t A B C x n → ∃ z, x ≤ z ∧ z < x + n ∧ p ∈ pat t A B C z
  | n + 1, x, h => by
    rw [pats] at h
    rcases List.mem_append.mp h with h | h
    · exact ⟨x, by omega, by omega, h⟩
    · obtain ⟨z, a, b, c⟩ := pats_mem n (x + 1) h
      exact ⟨z, by omega, by omega, c⟩
theorem pat_mem {t : Nat} {A B C x : Int} {p : Int × Int} (ht0 : 0 < t) (ht : t ≤ 32767) (h : p ∈ pat t A B C x) : p.1 = x ∧ p.2.natAbs ≤ 32767 := by
  unfold pat at h
  split at h
  · rw [List.mem_singleton] at h
    rw [h]; exact ⟨rfl, Nat.zero_le _⟩
  · split at h
    · rename_i h1 h2
      have := Nat.le_of_dvd ht0 h2.2
      rcases List.mem_cons.mp h with h | h
      · rw [h]; exact ⟨rfl, by dsimp only; omega⟩
      · rw [List.mem_singleton] at h
        rw [h]; exact ⟨rfl, by dsimp only; omega⟩
    · cases h
theorem raw_mem {t : Nat} {A B C : Int} {p : Int × Int} (ht0 : 0 < t) (ht : t ≤ 32767) (h : p ∈ raw t A B C) : p.1.natAbs ≤ 5000 ∧ p.2.natAbs ≤ 4000000 := by
  unfold raw at h
  obtain ⟨z, a, b, c⟩ := pats_mem _ _ h
  obtain ⟨d, e⟩ := pat_mem ht0 ht c
  omega
theorem qRg_of {l : List (Int × Int)} (h : ∀ p ∈ l, p.1.natAbs ≤ 5000 ∧ p.2.natAbs ≤ 4000000) : qRg l := fun i hi => h _ (qnth_mem l i hi)
/-- the class's search -/
theorem c_sea {t M : Nat} {A B C : Int} {dr xs ys os : Nat → Int32} {N : Nat} (hR : zR A B C) (ht0 : 0 < t) (htt : t * t ≤ 892366848) (ht : t ≤ 32767) (hM : t ≤ M) (ha : dAr (dvs t 1 M) dr) (hl : (dvs t 1 M).length ≤ 64) (hll : (raw t A B C).length ≤ 31) (ho : qord A B (raw t A B C) (raw t A B C) 1 = true) (hN : 2000 ≤ N) : ∃ xs' ys' os', a_fp_search N xs ys os (zJ A) (zJ B) (zJ C) (zI ((dvs t 1 M).length : Int)) (zJ ((t * t : Nat) : Int)) dr = some (xs', ys', os', zI (((qkp A B (raw t A B C)).length + 1 : Nat) : Int)) ∧ xs' 0 = 0 ∧ ys' 0 = 0 ∧ qSt (qkp A B (raw t A B C)) (1 :: qko A B (raw t A B C)) xs' ys' os' := by
  obtain ⟨a1, a2, b1, b2, c1, c2⟩ := hR
  obtain ⟨xs1, ys1, g1, g2, g3, g4⟩ := c_coll (xs := xs) (ys := ys) (N := N) ⟨a1, a2, b1, b2, c1, c2⟩ ht0 htt ht hM ha hl hll hN
  have hi := qord_i (raw t A B C) 1 ho
  have hrg := qRg_of (fun p hp => raw_mem (A := A) (B := B) (C := C) ht0 ht hp)
  generalize raw t A B C = R at *
  obtain ⟨os1, n1, f1, f2, f3⟩ := c_ords (A := A) (B := B) (by omega) (by omega) hll g4 hrg (R.length + 1) 0 N os (by omega) (by omega) (fun i h => by omega)
  have h0 : os1 0 = 1 := by rw [f2 0 (by omega)]; rfl
  obtain ⟨n2, rfl⟩ : ∃ n2, n1 = n2 + 1 := ⟨n1 - 1, by omega⟩
  have hup : ∀ f : Nat → Int32, upd f 0 (f 0) = f := fun f => by
    funext j; unfold upd; split
    · rename_i h; rw [h]
    · rfl
  obtain ⟨x2, y2, o2, k1, k2, k3, k4⟩ := c_keep (A := A) (B := B) (M := R.length + 1) (by omega) R 1 1 n2 xs1 ys1 os1 (by omega) (by omega) (by omega) g4 (fun i h => by rw [f2 (1 + i) (by omega), (hi i h).2])
  refine ⟨x2, y2, o2, ?_, by rw [(k2 0 (by omega)).1]; exact g2, by rw [(k2 0 (by omega)).2.1]; exact g3, k3, fun i h => ?_⟩
  · unfold a_fp_search
    rw [g1, Option.bind_some]
    dsimp only
    rw [show (0 : Int32) = zI ((0 : Nat) : Int) from rfl, f3, a_fp_keepFinite, a_fp_keepFinite_L4, if_neg (by rw [show (0 : Int32) = zI ((0 : Nat) : Int) from rfl, kI_le (by omega) (by omega)]; omega), if_neg (by decide), if_neg (by rw [show (0 : Int32).toNatClampNeg = 0 from rfl, h0]; decide), if_neg (by decide), show (0 : Int32).toNatClampNeg = 0 from rfl, hup, hup, hup, show (0 : Int32) + 1 = zI ((1 : Nat) : Int) from rfl, k1, Option.bind_some, Nat.add_comm 1]
  · match i with
    | 0 => rw [(k2 0 (by omega)).2.2, h0]; rfl
    | i + 1 =>
      have := k4 i (Nat.lt_of_succ_lt_succ h)
      rw [Nat.add_comm 1] at this
      rw [Nat.zero_add]
      exact this
