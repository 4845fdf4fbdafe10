/-! the structure, by the class -/
theorem qmax_c (o : Nat) (l : List Nat) (m : Nat) : qmax (o :: l) m = qmax l (if o ≤ m then m else o) := by
  show qmax l (qB (Nat.ble o m) m o) = _
  rw [qB_eq]
  simp only [qble]
theorem qmax_b : ∀ (l : List Nat) (m : Nat), (∀ o ∈ l, 1 ≤ o ∧ o ≤ 13) → 1 ≤ m → m ≤ 13 → 1 ≤ qmax l m ∧ qmax l m ≤ 13
  | [], m, _, h1, h2 => ⟨h1, h2⟩
  | o :: l, m, h, h1, h2 => by
    obtain ⟨o1, o2⟩ := h o (List.mem_cons_self)
    rw [qmax_c]
    exact qmax_b l _ (fun q hq => h q (List.mem_cons_of_mem _ hq)) (by split <;> omega) (by split <;> omega)
theorem s_max {fn : Int32} {os : Nat → Int32} : ∀ (l : List Nat) (k m n : Nat), k + l.length ≤ 32 → fn = zI ((k + l.length : Nat) : Int) → qOa k l os → (∀ o ∈ l, 1 ≤ o ∧ o ≤ 13) → 1 ≤ m → m ≤ 13 → l.length < n → a_fp_greatestOrder_L4 fn os n (zI (m : Int)) (zI (k : Int)) = some (zI (qmax l m : Int))
  | [], k, m, n + 1, h2, hf, _, _, _, _, _ => by
    rw [a_fp_greatestOrder_L4, if_pos (by rw [hf]; exact (kI_le (by simp at h2 ⊢; omega) (by simp at h2 ⊢; omega)).mpr (by simp))]; rfl
  | o :: l, k, m, n + 1, h2, hf, ha, ho, m1, m2, hn => by
    have hl : (o :: l).length = l.length + 1 := rfl
    obtain ⟨o1, o2⟩ := ho o (List.mem_cons_self)
    rw [a_fp_greatestOrder_L4, if_neg (by rw [hf, kI_le (by omega) (by omega)]; omega), if_neg (kI_bad (by omega) (by omega)), kI_nat (by omega), qOa_h ha, kI_s, qmax_c]
    have e : a_ma_max (zI (m : Int)) (zI (o : Int)) = zI ((if o ≤ m then m else o : Nat) : Int) := by
      unfold a_ma_max
      by_cases h : o ≤ m
      · rw [if_neg (by rw [kI_lt (by omega) (by omega)]; omega), if_pos h]
      · rw [if_pos ((kI_lt (by omega) (by omega)).mpr (by omega)), if_neg h]
    rw [e]
    exact s_max l (k + 1) _ n (by omega) (by rw [hf, hl]; congr 2; omega) (qOa_t ha) (fun q hq => ho q (List.mem_cons_of_mem _ hq)) (by split <;> omega) (by split <;> omega) (by omega)
theorem qfst_c (c o : Nat) (l : List Nat) (k : Nat) : qfst c (o :: l) k = if o = c then k else qfst c l (k + 1) := by
  show qB (Nat.beq o c) k (qfst c l (Nat.succ k)) = _
  rw [qB_eq]
  simp only [qbeq]
theorem qfst_b (c : Nat) : ∀ (l : List Nat) (k : Nat), qfst c l k = 99 ∨ (k ≤ qfst c l k ∧ qfst c l k < k + l.length)
  | [], _ => Or.inl rfl
  | o :: l, k => by
    have h := qfst_b c l (k + 1)
    have hl : (o :: l).length = l.length + 1 := rfl
    rw [qfst_c]
    split
    · right; omega
    · omega
theorem s_fst {fn : Int32} {os : Nat → Int32} {c : Nat} (hc : c ≤ 100) : ∀ (l : List Nat) (k n : Nat), k + l.length ≤ 32 → fn = zI ((k + l.length : Nat) : Int) → qOa k l os → (∀ o ∈ l, 1 ≤ o ∧ o ≤ 13) → l.length < n → a_fp_greaterMaker_L7 fn os (zI (c : Int)) n (zI (k : Int)) = some (qi (qfst c l k))
  | [], k, n + 1, h2, hf, _, _, _ => by
    rw [a_fp_greaterMaker_L7, if_pos (by rw [hf]; exact (kI_le (by simp at h2 ⊢; omega) (by simp at h2 ⊢; omega)).mpr (by simp))]; rfl
  | o :: l, k, n + 1, h2, hf, ha, ho, hn => by
    have hl : (o :: l).length = l.length + 1 := rfl
    obtain ⟨o1, o2⟩ := ho o (List.mem_cons_self)
    have e : zI (o : Int) = zI (c : Int) ↔ o = c := kI_eq (by omega) (by omega)
    rw [a_fp_greaterMaker_L7, if_neg (by rw [hf, kI_le (by omega) (by omega)]; omega), if_neg (kI_bad (by omega) (by omega)), kI_nat (by omega), qOa_h ha, kI_s, qfst_c]
    by_cases h : o = c
    · rw [if_pos (e.mpr h), if_pos h, qi, if_neg (by omega)]
    · rw [if_neg (fun q => h (e.mp q)), if_neg h]
      exact s_fst hc l (k + 1) n (by omega) (by rw [hf, hl]; congr 2; omega) (qOa_t ha) (fun q hq => ho q (List.mem_cons_of_mem _ hq)) (by omega)
theorem qism_s (T : Nat → Nat → Nat) (x q f r : Nat) : qism T x q (f + 1) r = if r = x then true else qism T x q f (T r q) := by
  show qB (Nat.beq r x) true (qism T x q f (T r q)) = _
  rw [qB_eq]
  simp only [qbeq]
theorem s_ism {A B : Int} {K : List (Int × Int)} {O : List Nat} {xs ys os : Nat → Int32} (h : qGd A B K O) (hs : qSt K O xs ys os) {x q : Nat} (hx : x ≤ K.length) (hq : q ≤ K.length) : ∀ (f i r n : Nat), i + f = 12 → r ≤ K.length → f + 50 ≤ n → a_fp_isMultiple_L6 (zI ((K.length + 1 : Nat) : Int)) xs ys (zJ A) (zJ B) (zI (x : Int)) (zI (q : Int)) n (zI (r : Int)) (zI (i : Int)) = some (if qism (qsm A B K) x q f r = true then 1 else 0)
  | 0, i, r, n + 1, hi, _, _ => by
    rw [a_fp_isMultiple_L6, if_pos (by rw [show (12 : Int32) = zI ((12 : Nat) : Int) from rfl, kI_le (by omega) (by omega)]; omega)]; rfl
  | f + 1, i, r, n + 1, hi, hr, hn => by
    have hK := h.2.2.1
    have e : zI (r : Int) = zI (x : Int) ↔ r = x := kI_eq (by omega) (by omega)
    rw [a_fp_isMultiple_L6, if_neg (by rw [show (12 : Int32) = zI ((12 : Nat) : Int) from rfl, kI_le (by omega) (by omega)]; omega), qism_s]
    by_cases h1 : r = x
    · rw [if_pos (e.mpr h1), if_pos h1]; rfl
    · rw [if_neg (fun q => h1 (e.mp q)), if_neg h1, g_sum h hs (by omega) hr hq, Option.bind_some, kI_s]
      exact s_ism h hs hx hq f (i + 1) _ n (by omega) (h.2.2.2.2.2.1 _ _ hr hq) (by omega)
  | 0, _, _, 0, _, _, hn => by omega
  | f + 1, _, _, 0, _, _, hn => by omega
theorem qmeet_s (T : Nat → Nat → Nat) (k q c i : Nat) : qmeet T k q (c + 1) i = if qism T (qmul T k i) q 12 0 = true then false else qmeet T k q c (i + 1) := by
  show qB (qism T (qmul T k i) q 12 0) false (qmeet T k q c (Nat.succ i)) = _
  rw [qB_eq]
theorem s_meet {A B : Int} {K : List (Int × Int)} {O : List Nat} {xs ys os : Nat → Int32} (h : qGd A B K O) (hs : qSt K O xs ys os) {k q : Nat} (hk : k ≤ K.length) (hq : q ≤ K.length) : ∀ (c i n : Nat), i + c = O.getD k 0 → 1 ≤ i → c + 200 ≤ n → a_fp_meetsOnlyInZero_L3 (zI ((K.length + 1 : Nat) : Int)) xs ys os (zJ A) (zJ B) (zI (k : Int)) (zI (q : Int)) n (zI (i : Int)) = some (if qmeet (qsm A B K) k q c i = true then 1 else 0)
  | 0, i, n + 1, hi, h1, _ => by
    have hK := h.2.2.1
    have hl := h.2.2.2.2.2.2.1
    obtain ⟨o1, o2⟩ := g_or h hk
    have hok := hs.2 k (by omega)
    rw [Nat.zero_add] at hok
    rw [a_fp_meetsOnlyInZero_L3, if_neg (kI_bad (by omega) (by omega)), kI_nat (by omega), hok, if_pos ((kI_le (by omega) (by omega)).mpr (by omega))]; rfl
  | c + 1, i, n + 1, hi, h1, hn => by
    have hK := h.2.2.1
    have hl := h.2.2.2.2.2.2.1
    obtain ⟨o1, o2⟩ := g_or h hk
    have hok := hs.2 k (by omega)
    rw [Nat.zero_add] at hok
    have e : ((i : Int) % (O.getD k 0 : Int)).toNat = i := by
      rw [Int.emod_eq_of_lt (by omega) (by omega)]; omega
    rw [a_fp_meetsOnlyInZero_L3, if_neg (kI_bad (by omega) (by omega)), kI_nat (by omega), hok, if_neg (by rw [kI_le (by omega) (by omega)]; omega), g_times h hs (by omega) (by omega) hk (by omega), Option.bind_some, e, a_fp_isMultiple, show (0 : Int32) = zI ((0 : Nat) : Int) from rfl, s_ism h hs (qmul_le h hk i) hq 12 0 0 n rfl (Nat.zero_le _) (by omega), Option.bind_some, qmeet_s]
    by_cases h2 : qism (qsm A B K) (qmul (qsm A B K) k i) q 12 0 = true
    · rw [if_pos h2, if_pos h2, if_neg (by decide)]; rfl
    · rw [if_neg h2, if_neg h2, if_pos (by decide), kI_s]
      exact s_meet h hs hk hq c (i + 1) n (by omega) (by omega) (by omega)
  | 0, _, 0, _, _, hn => by omega
  | c + 1, _, 0, _, _, hn => by omega
theorem qsmk_c (T : Nat → Nat → Nat) (m q o : Nat) (l : List Nat) (k : Nat) : qsmk T m q (o :: l) k = if o = m then (if qmeet T k q (o - 1) 1 = true then k else qsmk T m q l (k + 1)) else qsmk T m q l (k + 1) := by
  show qB (Nat.beq o m) (qB (qmeet T k q (Nat.pred o) 1) k (qsmk T m q l (Nat.succ k))) (qsmk T m q l (Nat.succ k)) = _
  simp only [qB_eq, qbeq]
  rfl
theorem s_smk {A B : Int} {K : List (Int × Int)} {O : List Nat} {xs ys os : Nat → Int32} (h : qGd A B K O) (hs : qSt K O xs ys os) {m q : Nat} (hm : m ≤ 100) (hq : q ≤ K.length) : ∀ (l : List Nat) (k n : Nat), k + l.length = K.length + 1 → (∀ i, i < l.length → l.getD i 0 = O.getD (k + i) 0) → l.length + 300 ≤ n → a_fp_smallerMaker_L13 (zI ((K.length + 1 : Nat) : Int)) xs ys os (zJ A) (zJ B) (zI (m : Int)) (zI (q : Int)) n (zI (k : Int)) = some (qi (qsmk (qsm A B K) m q l k))
  | [], k, n + 1, hk, _, _ => by
    have hK := h.2.2.1
    rw [a_fp_smallerMaker_L13, if_pos ((kI_le (by omega) (by simp at hk; omega)).mpr (by simp at hk; omega))]; rfl
  | o :: l, k, n + 1, hk, hO, hn => by
    have hK := h.2.2.1
    have hL := h.2.2.2.2.2.2.1
    have hl : (o :: l).length = l.length + 1 := rfl
    have hkl : k ≤ K.length := by omega
    obtain ⟨o1, o2⟩ := g_or h hkl
    have hok := hs.2 k (by omega)
    rw [Nat.zero_add] at hok
    have ho : o = O.getD k 0 := hO 0 (Nat.succ_pos _)
    have e : zI (O.getD k 0 : Int) = zI (m : Int) ↔ o = m := by rw [kI_eq (by omega) (by omega), ho]
    have ih := s_smk h hs hm hq l (k + 1) n (by omega) (fun i hi => by have := hO (i + 1) (Nat.succ_lt_succ hi); rw [show k + (i + 1) = k + 1 + i by omega] at this; exact this) (by omega)
    rw [a_fp_smallerMaker_L13, if_neg (by rw [kI_le (by omega) (by omega)]; omega), if_neg (kI_bad (by omega) (by omega)), kI_nat (by omega), hok, kI_s, ih, qsmk_c]
    by_cases h1 : o = m
    · rw [if_pos (e.mpr h1), if_pos h1, a_fp_meetsOnlyInZero, show (1 : Int32) = zI ((1 : Nat) : Int) from rfl, s_meet h hs hkl hq (o - 1) 1 n (by omega) (by omega) (by omega), Option.bind_some]
      by_cases h2 : qmeet (qsm A B K) k q (o - 1) 1 = true
      · rw [if_pos h2, if_pos h2, if_neg (by decide), qi, if_neg (by omega)]
      · rw [if_neg h2, if_neg h2, if_pos (by decide)]
    · rw [if_neg (fun q => h1 (e.mp q)), if_neg h1]
  | [], _, 0, _, _, hn => by omega
  | _ :: _, _, 0, _, _, hn => by omega
