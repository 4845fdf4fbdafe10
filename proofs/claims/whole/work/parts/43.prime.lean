/-! primes -/
theorem ob {α β : Type} (x : α) (f : α → Option β) : (some x).bind f = f x := rfl
def PR : List Nat := [3, 5, 7, 11, 13, 17, 19, 23, 29, 31, 37, 41, 43, 47, 53, 59, 61, 67, 71, 73, 79, 83, 89, 97]
theorem zpr_e : ∀ j, j < 24 → zpr (0 + j) = zI (PR.getD j 0 : Int) := by decide +kernel
theorem PR_b : ∀ p ∈ PR, 3 ≤ p ∧ p ≤ 97 := by decide +kernel
def prt (v : Int) : Int32 := if PR.any (fun p => decide ((p : Int) = v)) = true then 1 else 0
theorem prt_01 (v : Int) : prt v = 0 ∨ prt v = 1 := by
  unfold prt
  split
  · exact Or.inr rfl
  · exact Or.inl rfl
theorem prt_0 {v : Int} (h : v < 3 ∨ 97 < v) : prt v = 0 := by
  unfold prt
  rw [if_neg]
  intro q
  obtain ⟨p, hp, e⟩ := List.any_eq_true.mp q
  have h1 := PR_b p hp
  have h2 := of_decide_eq_true e
  omega
theorem c_pr {v : Int} (h1 : -2147483648 ≤ v) (h2 : v ≤ 2147483647) : ∀ (l : List Nat) (j n : Nat), j + l.length = 24 → (∀ i, i < l.length → zpr (j + i) = zI (l.getD i 0 : Int)) → (∀ p ∈ l, 3 ≤ p ∧ p ≤ 97) → l.length < n → a_td_isPrime_L9 (zI v) n (zI (j : Int)) = some (if l.any (fun p => decide ((p : Int) = v)) = true then 1 else 0)
  | [], j, n + 1, hj, _, _, _ => by
    have hj : j = 24 := hj
    show _ = some (0 : Int32)
    rw [a_td_isPrime_L9, if_pos (by rw [show (24 : Int32) = zI ((24 : Nat) : Int) from rfl, kI_le (by omega) (by omega)]; omega)]
  | p :: l, j, n + 1, hj, ha, hb, hn => by
    rw [List.length_cons] at hj hn
    have hp := hb p List.mem_cons_self
    have e0 : zpr j = zI (p : Int) := ha 0 (Nat.succ_pos _)
    have e : zI (p : Int) = zI v ↔ (p : Int) = v := zI_eq (by omega) (by omega) h1 h2
    rw [a_td_isPrime_L9, if_neg (by rw [show (24 : Int32) = zI ((24 : Nat) : Int) from rfl, kI_le (by omega) (by omega)]; omega), if_neg (kI_bad (by omega) (by omega)), kI_nat (by omega), e0, kI_s, List.any_cons]
    by_cases h : (p : Int) = v
    · rw [if_pos (e.mpr h), decide_eq_true h]
      try rfl
    · rw [if_neg (fun q => h (e.mp q)), decide_eq_false h, Bool.false_or]
      exact c_pr h1 h2 l (j + 1) n (by omega) (fun i hi => by have := ha (i + 1) (Nat.succ_lt_succ hi); rw [show j + 1 + i = j + (i + 1) by omega]; exact this) (fun q hq => hb q (List.mem_cons_of_mem _ hq)) (by omega)
theorem e_pr1 {v : Int} {N : Nat} (h1 : -2147483648 ≤ v) (h2 : v ≤ 2147483647) (hN : 1000 ≤ N) : a_td_isPrime N (zI v) = some (prt v) := c_pr h1 h2 PR 0 N rfl zpr_e PR_b (show 24 < N by omega)
def prr (p : Nat) : Nat → Nat → Int32
  | 0, _ => 1
  | m + 1, y => if p < y * y then 1 else if p % y = 0 then 0 else prr p m (y + 1)
theorem prr_s (p m y : Nat) : prr p (m + 1) y = if p < y * y then 1 else if p % y = 0 then 0 else prr p m (y + 1) := rfl
theorem prr_e : ∀ p, p < 98 → 3 ≤ p → prr p 9 2 = prt (p : Int) := by decide +kernel
theorem m_pr {p : Nat} (h1 : 3 ≤ p) (h2 : p ≤ 97) : ∀ (m y n : Nat), y + m = 11 → 2 ≤ y → m < n → a_md_isPrime_L2 (zI (p : Int)) n (zI (y : Int)) = some (prr p m y)
  | 0, y, n + 1, hy, _, _ => by
    have hp3 : ¬ zI (p : Int) < 3 := by rw [show (3 : Int32) = zI ((3 : Nat) : Int) from rfl, kI_lt (by omega) (by omega)]; omega
    have hp97 : ¬ (97 : Int32) < zI (p : Int) := by rw [show (97 : Int32) = zI ((97 : Nat) : Int) from rfl, kI_lt (by omega) (by omega)]; omega
    have e : y = 11 := by omega
    subst e
    show _ = some (1 : Int32)
    rw [a_md_isPrime_L2, kI_mul, if_pos (by rw [kI_lt (by omega) (by omega)]; omega), if_neg hp3, if_neg hp97]
  | m + 1, y, n + 1, hy, hy2, hn => by
    have hp3 : ¬ zI (p : Int) < 3 := by rw [show (3 : Int32) = zI ((3 : Nat) : Int) from rfl, kI_lt (by omega) (by omega)]; omega
    have hp97 : ¬ (97 : Int32) < zI (p : Int) := by rw [show (97 : Int32) = zI ((97 : Nat) : Int) from rfl, kI_lt (by omega) (by omega)]; omega
    have hb : y * y ≤ 11 * 11 := sq_b (by omega)
    have e : zI (p : Int) < zI ((y * y : Nat) : Int) ↔ p < y * y := kI_lt (by omega) (by omega)
    have hml := Nat.mod_lt p (show 0 < y by omega)
    have e2 : zI ((p % y : Nat) : Int) = 0 ↔ p % y = 0 := by rw [show (0 : Int32) = zI ((0 : Nat) : Int) from rfl]; exact kI_eq (by omega) (by omega)
    rw [a_md_isPrime_L2, kI_mul, if_neg (kI_0 (p := y) (by omega) (by omega)), kI_mod (by omega) (by omega), kI_s, prr_s]
    by_cases h : p < y * y
    · rw [if_pos (e.mpr h), if_pos h, if_neg hp3, if_neg hp97]
    · rw [if_neg (fun q => h (e.mp q)), if_neg h]
      by_cases h3 : p % y = 0
      · rw [if_pos (e2.mpr h3), if_pos h3]
      · rw [if_neg (fun q => h3 (e2.mp q)), if_neg h3]
        exact m_pr h1 h2 m (y + 1) n (by omega) (by omega) (by omega)
theorem e_pr2 {p N : Nat} (h1 : 3 ≤ p) (h2 : p ≤ 97) (hN : 1000 ≤ N) : a_md_isPrime N (zI (p : Int)) = some (prt (p : Int)) := by
  rw [← prr_e p (by omega) h1]
  exact m_pr h1 h2 9 2 N (by omega) (by omega) (by omega)
theorem md_i {N : Nat} (hN : 80000 ≤ N) (i : Int32) : (a_td_isPrime N i = some 0 ∧ ∀ mh m1 m2 m3 m4, a_md_modulo N mh m1 m2 m3 m4 i = some (0, 1)) ∨ ∃ p : Nat, 3 ≤ p ∧ p ≤ 97 ∧ i = zI (p : Int) ∧ a_td_isPrime N i = some 1 ∧ a_md_isPrime N i = some 1 := by
  obtain ⟨v1, v2⟩ := zI_rng i
  have ev := zI_of i
  generalize i.toInt = v at v1 v2 ev
  subst ev
  have e1 := e_pr1 (N := N) v1 v2 (by omega)
  have l3 : zI v < 3 ↔ v < 3 := by rw [show (3 : Int32) = zI 3 from rfl]; exact zI_lt v1 v2 (by omega) (by omega)
  have l97 : (97 : Int32) < zI v ↔ 97 < v := by rw [show (97 : Int32) = zI 97 from rfl]; exact zI_lt (by omega) (by omega) v1 v2
  by_cases h : v < 3 ∨ 97 < v
  · left
    refine ⟨by rw [e1, prt_0 h], fun mh m1 m2 m3 m4 => ?_⟩
    unfold a_md_modulo
    rcases h with h | h
    · rw [if_pos (l3.mpr h)]
    · rw [if_neg (fun q => by have := l3.mp q; omega), if_pos (l97.mpr h)]
  · obtain ⟨p, hp⟩ : ∃ p : Nat, (p : Int) = v := ⟨v.toNat, by omega⟩
    subst hp
    have e2 := e_pr2 (N := N) (p := p) (by omega) (by omega) (by omega)
    rcases prt_01 (p : Int) with hq | hq
    · left
      refine ⟨by rw [e1, hq], fun mh m1 m2 m3 m4 => ?_⟩
      unfold a_md_modulo
      rw [if_neg (fun q => by have := l3.mp q; omega), if_neg (fun q => by have := l97.mp q; omega), e2, hq, ob, if_pos rfl]
    · right
      exact ⟨p, by omega, by omega, rfl, by rw [e1, hq], by rw [e2, hq]⟩
theorem rem_p {D : Int} {p : Nat} (hD : D.natAbs ≤ 892366848) (h1 : 3 ≤ p) (h2 : p ≤ 97) : (zJ D - zJ D / (zI (p : Int)).toInt64 * (zI (p : Int)).toInt64) = 0 ↔ (p : Int) ∣ D := by
  rw [zI_long (by omega) (by omega), show (0 : Int64) = zJ 0 from rfl, zJ_rem0 (by omega) (by omega) (by omega) (by omega)]
theorem good {D : Int} {p : Nat} (hD : D.natAbs ≤ 892366848) (h1 : 3 ≤ p) (h2 : p ≤ 97) : a_cu_isGoodFor (zJ D) (zI (p : Int)) = some (if (p : Int) ∣ D then 0 else 1) := by
  unfold a_cu_isGoodFor
  have e := rem_p hD h1 h2
  rw [if_neg (by rw [show (0 : Int32) = zI ((0 : Nat) : Int) from rfl, kI_le (by omega) (by omega)]; omega), if_neg (kJ_0 (by omega) (by omega))]
  by_cases h : (p : Int) ∣ D
  · rw [if_pos (e.mpr h), if_pos h]
  · rw [if_neg (fun q => h (e.mp q)), if_neg h]
theorem zkm1 : zk_modulo (.inr "java/lang/IllegalArgumentException") = 1 := by
  show (if "java/lang/IllegalArgumentException" = "java/lang/IllegalArgumentException" then (1 : Int32) else if "java/lang/IllegalArgumentException" = "java/lang/IllegalStateException" then 2 else if "java/lang/IllegalArgumentException" = "java/lang/ArithmeticException" then 3 else 9) = 1
  rw [if_pos rfl]
theorem zkm2 : zk_modulo (.inr "java/lang/IllegalStateException") = 2 := by
  show (if "java/lang/IllegalStateException" = "java/lang/IllegalArgumentException" then (1 : Int32) else if "java/lang/IllegalStateException" = "java/lang/IllegalStateException" then 2 else if "java/lang/IllegalStateException" = "java/lang/ArithmeticException" then 3 else 9) = 2
  rw [if_neg (by decide), if_pos rfl]
theorem zkm3 : zk_modulo (.inr "java/lang/ArithmeticException") = 3 := by
  show (if "java/lang/ArithmeticException" = "java/lang/IllegalArgumentException" then (1 : Int32) else if "java/lang/ArithmeticException" = "java/lang/IllegalStateException" then 2 else if "java/lang/ArithmeticException" = "java/lang/ArithmeticException" then 3 else 9) = 3
  rw [if_neg (by decide), if_neg (by decide), if_pos rfl]
theorem i1_0 : ¬ (1 : Int32) = 0 := by decide
theorem e_mod {dr xs ys os pa pb po : Nat → Int32} {a c A B C : Int} {t M : Nat} {K : List (Int × Int)} {O : List Nat} (h : zCv dr xs ys os pa pb po a c A B C t M K O) {N : Nat} (hN : 80000 ≤ N) (rc : Nat → Int32) (i : Int32) : (∃ e, a_td_modulo N 1 (zJ A) (zJ B) (zJ C) (zJ (qD A B C)) rc i = some (.inr e) ∧ a_md_modulo N 1 (zJ A) (zJ B) (zJ C) (zJ (qD A B C)) i = some (0, zk_modulo (.inr e)) ∧ zk_modulo (.inr e) ≠ 0) ∨ ∃ r rc', a_td_modulo N 1 (zJ A) (zJ B) (zJ C) (zJ (qD A B C)) rc i = some (.inl (r, rc')) ∧ a_md_modulo N 1 (zJ A) (zJ B) (zJ C) (zJ (qD A B C)) i = some (r, 0) := by
  obtain ⟨-, -, hR, -, hd, -⟩ := h
  rcases md_i hN i with ⟨h1, h2⟩ | ⟨p, p1, p2, rfl, h1, h2⟩
  · left
    refine ⟨"java/lang/IllegalArgumentException", ?_, by rw [zkm1]; exact h2 _ _ _ _ _, by rw [zkm1]; decide⟩
    unfold a_td_modulo
    rw [h1, ob, if_pos rfl]
  · have l3 : ¬ zI (p : Int) < 3 := by rw [show (3 : Int32) = zI ((3 : Nat) : Int) from rfl, kI_lt (by omega) (by omega)]; omega
    have l97 : ¬ (97 : Int32) < zI (p : Int) := by rw [show (97 : Int32) = zI ((97 : Nat) : Int) from rfl, kI_lt (by omega) (by omega)]; omega
    have e := rem_p hd p1 p2
    unfold a_td_modulo a_md_modulo
    rw [h1, h2, ob, ob, if_neg l3, if_neg l97, good hd p1 p2, ob]
    by_cases hp : (p : Int) ∣ qD A B C
    · left
      refine ⟨"java/lang/ArithmeticException", ?_, ?_, by rw [zkm3]; decide⟩
      · rw [if_neg i1_0, if_neg i1_0, if_pos hp, if_pos rfl]
      · rw [if_neg i1_0, if_neg i1_0, if_neg (kJ_0 (by omega) (by omega)), if_pos (e.mpr hp), zkm3]
    · right
      obtain ⟨rc', hc⟩ := c_count (N := N) (rc := rc) hR (show 1 ≤ p by omega) p2 (by omega)
      refine ⟨zI (tot A B C p p : Int), rc', ?_, ?_⟩
      · rw [if_neg i1_0, if_neg i1_0, if_neg hp, if_neg i1_0, hc]
        rfl
      · rw [if_neg i1_0, if_neg i1_0, if_neg (kJ_0 (by omega) (by omega)), if_neg (fun q => hp (e.mp q)), m_count hR (by omega) p2 (by omega)]
        rfl
theorem n_mod {sq li co di m1 m2 m3 m4 : Int64} {N : Nat} (hN : 80000 ≤ N) (rc : Nat → Int32) (i : Int32) : ∃ e, a_td_modulo N 0 sq li co di rc i = some (.inr e) ∧ a_md_modulo N 0 m1 m2 m3 m4 i = some (0, zk_modulo (.inr e)) ∧ zk_modulo (.inr e) ≠ 0 := by
  rcases md_i hN i with ⟨h1, h2⟩ | ⟨p, p1, p2, rfl, h1, h2⟩
  · refine ⟨"java/lang/IllegalArgumentException", ?_, by rw [zkm1]; exact h2 _ _ _ _ _, by rw [zkm1]; decide⟩
    unfold a_td_modulo
    rw [h1, ob, if_pos rfl]
  · have l3 : ¬ zI (p : Int) < 3 := by rw [show (3 : Int32) = zI ((3 : Nat) : Int) from rfl, kI_lt (by omega) (by omega)]; omega
    have l97 : ¬ (97 : Int32) < zI (p : Int) := by rw [show (97 : Int32) = zI ((97 : Nat) : Int) from rfl, kI_lt (by omega) (by omega)]; omega
    refine ⟨"java/lang/IllegalStateException", ?_, ?_, by rw [zkm2]; decide⟩
    · unfold a_td_modulo
      rw [h1, ob, if_neg i1_0, if_pos rfl]
    · unfold a_md_modulo
      rw [if_neg l3, if_neg l97, h2, ob, if_neg i1_0, if_pos rfl, zkm2]
/-! the bound -/
noncomputable def bst (A B C v : Int) (acc p : Nat) : Nat := if v < p then acc else if (p : Int) ∣ qD A B C then acc else Nat.gcd acc (tot A B C p p)
theorem tot_pos (A B C : Int) (p : Nat) : ∀ m : Nat, 1 ≤ tot A B C p m
  | 0 => Nat.le_refl 1
  | m + 1 => by
    have := tot_pos A B C p m
    rw [tot_s]
    omega
theorem tot_b (A B C : Int) {p : Nat} (hp : p ≤ 97) : 1 ≤ tot A B C p p ∧ tot A B C p p ≤ 9410 := by
  have h1 := tot_pos A B C p p
  have h2 := tot_le A B C hp p
  omega
theorem bst_b {A B C v : Int} {acc p : Nat} (hp : p ≤ 97) (ha : acc ≤ 9410) : bst A B C v acc p ≤ 9410 := by
  unfold bst
  obtain ⟨h1, h2⟩ := tot_b A B C hp
  have h3 := Nat.gcd_le_right acc h1
  split
  · exact ha
  · split
    · exact ha
    · omega
theorem bst_skip {A B C v : Int} : ∀ (l : List Nat) (acc : Nat), (∀ p ∈ l, v < (p : Int)) → l.foldl (bst A B C v) acc = acc
  | [], acc, _ => rfl
  | p :: l, acc, h => by
    rw [List.foldl_cons, show bst A B C v acc p = acc by unfold bst; rw [if_pos (h p List.mem_cons_self)]]
    exact bst_skip l acc (fun q hq => h q (List.mem_cons_of_mem _ hq))
theorem c_bnd {A B C v : Int} (hR : zR A B C) (hd : (qD A B C).natAbs ≤ 892366848) (h1 : -2147483648 ≤ v) (h2 : v ≤ 2147483647) : ∀ (l : List Nat) (j n acc : Nat) (rc : Nat → Int32), j + l.length = 24 → (∀ i, i < l.length → zpr (j + i) = zI (l.getD i 0 : Int)) → (∀ p ∈ l, 3 ≤ p ∧ p ≤ 97) → acc ≤ 9410 → l.length + 1000 ≤ n → ∃ rc', a_td_bound_L28 (zJ A) (zJ B) (zJ C) (zJ (qD A B C)) (zI v) n (zI (j : Int)) rc (zI (acc : Int)) = some (zI ((l.foldl (bst A B C v) acc : Nat) : Int), rc')
  | [], j, n + 1, acc, rc, hj, _, _, _, _ => by
    have hj : j = 24 := hj
    exact ⟨rc, by rw [a_td_bound_L28, if_pos (by rw [show (24 : Int32) = zI ((24 : Nat) : Int) from rfl, kI_le (by omega) (by omega)]; omega), List.foldl_nil]⟩
  | p :: l, j, n + 1, acc, rc, hj, ha, hb, hacc, hn => by
    rw [List.length_cons] at hj hn
    obtain ⟨p1, p2⟩ := hb p List.mem_cons_self
    have e0 : zpr j = zI (p : Int) := ha 0 (Nat.succ_pos _)
    have e : zI v < zI (p : Int) ↔ v < (p : Int) := zI_lt h1 h2 (by omega) (by omega)
    have ih := fun acc' rc' hx => c_bnd hR hd h1 h2 l (j + 1) n acc' rc' (by omega) (fun i hi => by have := ha (i + 1) (Nat.succ_lt_succ hi); rw [show j + 1 + i = j + (i + 1) by omega]; exact this) (fun q hq => hb q (List.mem_cons_of_mem _ hq)) hx (by omega)
    rw [a_td_bound_L28, if_neg (by rw [show (24 : Int32) = zI ((24 : Nat) : Int) from rfl, kI_le (by omega) (by omega)]; omega), if_neg (kI_bad (by omega) (by omega)), kI_nat (by omega), e0, kI_s, List.foldl_cons]
    by_cases hv : v < (p : Int)
    · rw [if_pos (e.mpr hv), show bst A B C v acc p = acc by unfold bst; rw [if_pos hv]]
      exact ih acc rc hacc
    · rw [if_neg (fun q => hv (e.mp q)), good hd p1 p2, ob]
      by_cases hp : (p : Int) ∣ qD A B C
      · rw [if_pos hp, if_pos rfl, show bst A B C v acc p = acc by unfold bst; rw [if_neg hv, if_pos hp]]
        exact ih acc rc hacc
      · obtain ⟨rc', hc⟩ := c_count (N := n) (rc := rc) hR (show 1 ≤ p by omega) p2 (by omega)
        obtain ⟨t1, t2⟩ := tot_b A B C p2
        have hg : a_td_greatestDivisor n (zI (acc : Int)) (zI (tot A B C p p : Int)) = some (zI (Nat.gcd acc (tot A B C p p) : Int)) := n_gcd 14 acc (tot A B C p p) 0 n (by omega) (by omega) (by omega) (by omega) (by omega)
        have hb2 := bst_b (A := A) (B := B) (C := C) (v := v) p2 hacc
        have eb : bst A B C v acc p = Nat.gcd acc (tot A B C p p) := by unfold bst; rw [if_neg hv, if_neg hp]
        rw [if_neg hp, if_neg i1_0, hc]
        show ∃ rc'', (a_td_greatestDivisor n (zI (acc : Int)) (zI (tot A B C p p : Int))).bind (fun r => a_td_bound_L28 (zJ A) (zJ B) (zJ C) (zJ (qD A B C)) (zI v) n (zI ((j + 1 : Nat) : Int)) rc' r) = _
        rw [hg, ob, ← eb]
        exact ih _ rc' hb2
theorem m_bnd {A B C v : Int} (hR : zR A B C) (hd : (qD A B C).natAbs ≤ 892366848) (h1 : -2147483648 ≤ v) (h2 : v ≤ 97) : ∀ (m p n acc : Nat), p + m = 98 → 3 ≤ p → acc ≤ 9410 → m + 20000 ≤ n → a_md_bound_L9 1 (zJ A) (zJ B) (zJ C) (zJ (qD A B C)) (zI v) n (zI (p : Int)) (zI (acc : Int)) = some (zI ((((List.range' p m).filter (fun q : Nat => decide (prt (q : Int) = 1))).foldl (bst A B C v) acc : Nat) : Int), 0)
  | 0, p, n + 1, acc, hp, _, _, _ => by
    rw [a_md_bound_L9, if_pos (by rw [zI_lt (by omega) (by omega) (by omega) (by omega)]; omega)]
    rfl
  | m + 1, p, n + 1, acc, hp, hp3, hacc, hn => by
    have e : zI v < zI (p : Int) ↔ v < (p : Int) := zI_lt h1 (by omega) (by omega) (by omega)
    have l97 : ¬ (97 : Int32) < zI v := by rw [show (97 : Int32) = zI 97 from rfl, zI_lt (by omega) (by omega) (by omega) (by omega)]; omega
    by_cases hv : v < (p : Int)
    · rw [a_md_bound_L9, if_pos (e.mpr hv), bst_skip]
      intro q hq
      have := (List.mem_range'_1.mp (List.mem_filter.mp hq).1).1
      omega
    · have ih := fun acc' hx => m_bnd hR hd h1 h2 m (p + 1) n acc' (by omega) (by omega) hx (by omega)
      rw [a_md_bound_L9, if_neg (fun q => hv (e.mp q)), if_neg l97, if_neg i1_0, e_pr2 (by omega) (by omega) (by omega), ob, kI_s, List.range'_succ, List.filter_cons]
      rcases prt_01 (p : Int) with hq | hq
      · rw [if_pos hq, if_neg (show ¬ decide (prt (p : Int) = 1) = true by rw [hq]; decide)]
        exact ih acc hacc
      · rw [if_neg (show ¬ prt (p : Int) = 0 by rw [hq]; decide), if_neg (kJ_0 (by omega) (by omega)), if_pos (show decide (prt (p : Int) = 1) = true by rw [hq]; decide), List.foldl_cons]
        have er := rem_p hd hp3 (show p ≤ 97 by omega)
        by_cases hpd : (p : Int) ∣ qD A B C
        · rw [if_pos (er.mpr hpd), show bst A B C v acc p = acc by unfold bst; rw [if_neg hv, if_pos hpd]]
          exact ih acc hacc
        · obtain ⟨t1, t2⟩ := tot_b A B C (show p ≤ 97 by omega)
          have hg : a_md_common n (zI (acc : Int)) (zI (tot A B C p p : Int)) = some (zI (Nat.gcd acc (tot A B C p p) : Int)) := m_com (X := (acc : Int)) (by omega) (by omega) (by omega)
          have hb2 := bst_b (A := A) (B := B) (C := C) (v := v) (show p ≤ 97 by omega) hacc
          have eb : bst A B C v acc p = Nat.gcd acc (tot A B C p p) := by unfold bst; rw [if_neg hv, if_neg hpd]
          rw [if_neg (fun q => hpd (er.mp q)), m_count hR (by omega) (by omega) (by omega), ob, hg, ob, ← eb]
          exact ih _ hb2
theorem PR_f : (List.range' 3 95).filter (fun q : Nat => decide (prt (q : Int) = 1)) = PR := by decide +kernel
theorem e_bnd {dr xs ys os pa pb po : Nat → Int32} {a c A B C : Int} {t M : Nat} {K : List (Int × Int)} {O : List Nat} (h : zCv dr xs ys os pa pb po a c A B C t M K O) {N : Nat} (hN : 80000 ≤ N) (rc : Nat → Int32) (i : Int32) : ∃ r rc', a_td_bound N 1 (zJ A) (zJ B) (zJ C) (zJ (qD A B C)) rc i = some (r, rc') ∧ a_md_bound N 1 (zJ A) (zJ B) (zJ C) (zJ (qD A B C)) i = some (r, 0) := by
  obtain ⟨-, -, hR, -, hd, -⟩ := h
  obtain ⟨v1, v2⟩ := zI_rng i
  have ev := zI_of i
  generalize i.toInt = v at v1 v2 ev
  subst ev
  have l97 : zI v ≤ 97 ↔ v ≤ 97 := by rw [show (97 : Int32) = zI 97 from rfl]; exact zI_le v1 v2 (by omega) (by omega)
  have g97 : (97 : Int32) < zI v ↔ 97 < v := by rw [show (97 : Int32) = zI 97 from rfl]; exact zI_lt (by omega) (by omega) v1 v2
  have l3 : zI v < 3 ↔ v < 3 := by rw [show (3 : Int32) = zI 3 from rfl]; exact zI_lt v1 v2 (by omega) (by omega)
  unfold a_td_bound a_md_bound
  rw [if_neg i1_0]
  by_cases hv : v ≤ 97
  · obtain ⟨rc', g1⟩ := c_bnd hR hd v1 v2 PR 0 N 0 rc rfl zpr_e PR_b (by omega) (show 24 + 1000 ≤ N by omega)
    have g2 := m_bnd hR hd v1 hv 95 3 N 0 (by omega) (by omega) (by omega) (by omega)
    rw [PR_f] at g2
    exact ⟨_, rc', by rw [if_pos (l97.mpr hv)]; exact g1, g2⟩
  · obtain ⟨n, rfl⟩ : ∃ k, N = k + 1 := ⟨N - 1, by omega⟩
    refine ⟨0, rc, by rw [if_neg (fun q => hv (l97.mp q))], ?_⟩
    rw [a_md_bound_L9, if_neg (fun q => by have := l3.mp q; omega), if_pos (g97.mpr (by omega))]
theorem n_bnd {sq li co di m1 m2 m3 m4 : Int64} {N : Nat} (hN : 80000 ≤ N) (rc : Nat → Int32) (i : Int32) : a_td_bound N 0 sq li co di rc i = some (0, rc) ∧ a_md_bound N 0 m1 m2 m3 m4 i = some (0, 0) := by
  obtain ⟨n, rfl⟩ : ∃ k, N = k + 1 := ⟨N - 1, by omega⟩
  unfold a_td_bound a_md_bound
  rw [a_md_bound_L9, if_pos rfl]
  refine ⟨rfl, ?_⟩
  split
  · rfl
  · split
    · rfl
    · rfl
