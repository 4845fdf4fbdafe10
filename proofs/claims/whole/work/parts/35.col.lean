/-! the class's search -/
theorem c_find {g : Nat} (hg : g ≤ 9223372036854775807) {fn : Int32} {dr : Nat → Int32} : ∀ (l : List Nat) (i n : Nat), i + l.length ≤ 64 → fn = zI ((i + l.length : Nat) : Int) → (∀ j : Nat, j < l.length → dr (i + j) = zI (l.getD j 0 : Int)) → (∀ d ∈ l, d ≤ 65535) → l.length < n → a_sd_rootOf_L21 fn dr (zJ (g : Int)) n (zI (i : Int)) = some (match l.find? (fun d => decide (d * d = g)) with | some d => zI (d : Int) | none => -1)
  | [], i, n + 1, h1, hf, _, _, _ => by
    rw [a_sd_rootOf_L21, if_pos (by rw [hf]; exact (kI_le (by simp at h1 ⊢; omega) (by simp at h1 ⊢; omega)).mpr (by simp))]; rfl
  | d :: l, i, n + 1, h1, hf, ha, hb, hn => by
    have hl : (d :: l).length = l.length + 1 := rfl
    have hd := hb d List.mem_cons_self
    have hdd : d * d ≤ 65535 * 65535 := sq_b hd
    have a0 : dr i = zI (d : Int) := ha 0 (Nat.succ_pos _)
    have ih := c_find hg (fn := fn) (dr := dr) l (i + 1) n (by omega) (by rw [hf, hl]; congr 2; omega) (fun j hj => by have := ha (j + 1) (Nat.succ_lt_succ hj); rw [show i + (j + 1) = i + 1 + j by omega] at this; exact this) (fun q hq => hb q (List.mem_cons_of_mem _ hq)) (by omega)
    have e : zJ ((d * d : Nat) : Int) = zJ (g : Int) ↔ d * d = g := kJ_eq (by omega) hg
    rw [a_sd_rootOf_L21, if_neg (by rw [hf, kI_le (by omega) (by omega)]; omega), if_neg (kI_bad (by omega) (by omega)), kI_nat (by omega), a0, zI_long (by omega) (by omega), kJ_mul, kI_s, ih, List.find?_cons]
    by_cases h : d * d = g
    · rw [if_pos (e.mpr h), decide_eq_true h]
    · rw [if_neg (fun q => h (e.mp q)), decide_eq_false h]
theorem c_ro1 {t M y N : Nat} {g : Int} {dr : Nat → Int32} (ht0 : 0 < t) (ht : t ≤ 32767) (hM : t ≤ M) (ha : dAr (dvs t 1 M) dr) (hl : (dvs t 1 M).length ≤ 64) (hy : 0 < y) (hg : ((y * y : Nat) : Int) = g) (hd : y ∣ t) (hN : 65 ≤ N) : a_sd_rootOf N (zI ((dvs t 1 M).length : Int)) (zJ ((t * t : Nat) : Int)) dr (zJ g) = some (zI (y : Int)) := by
  have hyt := Nat.le_of_dvd ht0 hd
  have h1 : y * y ≤ 32767 * 32767 := sq_b (by omega)
  have h2 : t * t ≤ 32767 * 32767 := sq_b ht
  have h3 : 0 < y * y := Nat.mul_pos hy hy
  subst hg
  unfold a_sd_rootOf
  rw [if_neg (by rw [show (1 : Int64) = zJ ((1 : Nat) : Int) from rfl, kJ_lt (by omega) (by omega)]; omega), if_neg (by rw [show (0 : Int64) = zJ ((0 : Nat) : Int) from rfl, kJ_eq (by omega) (by omega)]; omega), if_pos ((kJ_rem (by omega) (by omega)).mpr (Nat.mul_dvd_mul hd hd)), show (0 : Int32) = zI ((0 : Nat) : Int) from rfl, c_find (by omega) (dvs t 1 M) 0 N (by omega) (by rw [Nat.zero_add]) (fun j hj => by rw [Nat.zero_add]; exact ha j hj) (fun d hd => by have := (dvs_mem.mp hd).2; have := Nat.le_of_dvd ht0 this; omega) (by omega)]
  have hmem : y ∈ dvs t 1 M := dvs_mem.mpr ⟨⟨by omega, by omega⟩, hd⟩
  cases hf : (dvs t 1 M).find? (fun d => decide (d * d = y * y)) with
  | none =>
    have := List.find?_eq_none.mp hf y hmem
    simp at this
  | some d =>
    have h5 := List.find?_some hf
    rw [decide_eq_true_eq] at h5
    have : d = y := isq_u (h5 ▸ isq_sq d) (isq_sq y)
    rw [this]
theorem c_ro0 {t M N : Nat} {g : Int} {dr : Nat → Int32} (ht0 : 0 < t) (ht : t ≤ 32767) (ha : dAr (dvs t 1 M) dr) (hl : (dvs t 1 M).length ≤ 64) (hg : g.natAbs ≤ 9000000000000000000) (h : ∀ y : Nat, 0 < y → ((y * y : Nat) : Int) = g → ¬ y ∣ t) (hN : 65 ≤ N) : a_sd_rootOf N (zI ((dvs t 1 M).length : Int)) (zJ ((t * t : Nat) : Int)) dr (zJ g) = some (-1) := by
  have h2 : t * t ≤ 32767 * 32767 := sq_b ht
  unfold a_sd_rootOf
  have e1 : zJ g < 1 ↔ g < 1 := by rw [show (1 : Int64) = zJ 1 from rfl]; exact zJ_lt (by omega) (by omega) (by omega) (by omega)
  by_cases hc : g < 1
  · rw [if_pos (e1.mpr hc)]
  rw [if_neg (fun q => hc (e1.mp q)), if_neg (by rw [show (0 : Int64) = zJ 0 from rfl, zJ_eq (by omega) (by omega) (by omega) (by omega)]; omega)]
  split
  · obtain ⟨m, hm⟩ := Int.eq_ofNat_of_zero_le (show 0 ≤ g by omega)
    subst hm
    rw [show (0 : Int32) = zI ((0 : Nat) : Int) from rfl, c_find (by omega) (dvs t 1 M) 0 N (by omega) (by rw [Nat.zero_add]) (fun j hj => by rw [Nat.zero_add]; exact ha j hj) (fun d hd => by have := (dvs_mem.mp hd).2; have := Nat.le_of_dvd ht0 this; omega) (by omega)]
    cases hf : (dvs t 1 M).find? (fun d => decide (d * d = m)) with
    | none => rfl
    | some d =>
      have h5 := List.find?_some hf
      rw [decide_eq_true_eq] at h5
      have h6 := dvs_mem.mp (List.mem_of_find?_eq_some hf)
      exact absurd h6.2 (h d (by omega) (by rw [h5]))
  · rfl
/-! the class's collecting -/
def cAr (l : List (Int × Int)) (xs ys : Nat → Int32) : Prop := xs 0 = 0 ∧ ys 0 = 0 ∧ qAr 1 l xs ys
theorem qnth_l (p : Int × Int) : ∀ l : List (Int × Int), qnth (l ++ [p]) l.length = p
  | [] => rfl
  | _ :: l => qnth_l p l
theorem qnth_a (m : List (Int × Int)) : ∀ (l : List (Int × Int)) (i : Nat), i < l.length → qnth (l ++ m) i = qnth l i
  | _ :: _, 0, _ => rfl
  | _ :: l, i + 1, h => qnth_a m l i (Nat.lt_of_succ_lt_succ h)
theorem cAr_app {l : List (Int × Int)} {xs ys : Nat → Int32} {x y : Int} (h : cAr l xs ys) : cAr (l ++ [(x, y)]) (upd xs (l.length + 1) (zI x)) (upd ys (l.length + 1) (zI y)) := by
  obtain ⟨h1, h2, h3⟩ := h
  refine ⟨?_, ?_, fun i hi => ?_⟩
  · unfold upd; rw [if_neg (by omega)]; exact h1
  · unfold upd; rw [if_neg (by omega)]; exact h2
  · rw [List.length_append, List.length_singleton] at hi
    unfold upd
    by_cases e : i = l.length
    · rw [if_pos (by omega), if_pos (by omega), e, qnth_l]
      exact ⟨rfl, rfl⟩
    · rw [if_neg (by omega), if_neg (by omega), qnth_a _ _ _ (by omega)]
      exact h3 i (by omega)
theorem c_app {l : List (Int × Int)} {xs ys : Nat → Int32} {x y : Int} (hl : l.length ≤ 30) : a_fp_append (zI ((l.length + 1 : Nat) : Int)) xs ys (zI x) (zI y) = some (upd xs (l.length + 1) (zI x), upd ys (l.length + 1) (zI y), zI (((l ++ [(x, y)]).length + 1 : Nat) : Int)) := by
  unfold a_fp_append
  rw [if_neg (by rw [show (32 : Int32) = zI ((32 : Nat) : Int) from rfl, kI_le (by omega) (by omega)]; omega), if_neg (kI_bad (by omega) (by omega)), kI_nat (by omega), kI_s, List.length_append]
  rfl
def cbody (sq li co : Int64) (dn : Int32) (dq : Int64) (dr : Nat → Int32) (n : Nat) (x : Int32) (a1 a2 : Nat → Int32) (f : Int32) : Option ((Nat → Int32) × (Nat → Int32) × Int32) :=
  (if (a_cu_valueAt sq li co x.toInt64) = (0 : Int64) then ((a_fp_append f a1 a2 x (0 : Int32)).bind (fun (o1_c58, o2_c58, o0_3_c58) => ((a_sd_rootOf n dn dq dr (a_cu_valueAt sq li co x.toInt64)).bind (fun r_c64 => (if r_c64 = (-1 : Int32) then a_fp_collect_L14 sq li co dn dq dr n (x + (1 : Int32)) o1_c58 o2_c58 o0_3_c58 else ((a_fp_append o0_3_c58 o1_c58 o2_c58 x (-r_c64)).bind (fun (o1_c80, o2_c80, o0_3_c80) => ((a_fp_append o0_3_c80 o1_c80 o2_c80 x r_c64).bind (fun (o1_c87, o2_c87, o0_3_c87) => a_fp_collect_L14 sq li co dn dq dr n (x + (1 : Int32)) o1_c87 o2_c87 o0_3_c87))))))))) else ((a_sd_rootOf n dn dq dr (a_cu_valueAt sq li co x.toInt64)).bind (fun r_c64 => (if r_c64 = (-1 : Int32) then a_fp_collect_L14 sq li co dn dq dr n (x + (1 : Int32)) a1 a2 f else ((a_fp_append f a1 a2 x (-r_c64)).bind (fun (o1_c80, o2_c80, o0_3_c80) => ((a_fp_append o0_3_c80 o1_c80 o2_c80 x r_c64).bind (fun (o1_c87, o2_c87, o0_3_c87) => a_fp_collect_L14 sq li co dn dq dr n (x + (1 : Int32)) o1_c87 o2_c87 o0_3_c87))))))))
theorem c_l14 (sq li co : Int64) (dn : Int32) (dq : Int64) (dr : Nat → Int32) (n : Nat) (x : Int32) (a1 a2 : Nat → Int32) (f : Int32) : a_fp_collect_L14 sq li co dn dq dr (n + 1) x a1 a2 f = (if (1000 : Int32) < x then some (a1, a2, f) else if x < (23 : Int32) then cbody sq li co dn dq dr n x a1 a2 f else if (a_cu_valueAt sq li co x.toInt64) ≤ dq then cbody sq li co dn dq dr n x a1 a2 f else some (a1, a2, f)) := by
  rw [a_fp_collect_L14]; rfl
theorem c_val {A B C x : Int} (hx : -2147483648 ≤ x) (hx2 : x ≤ 2147483647) : a_cu_valueAt (zJ A) (zJ B) (zJ C) (zI x).toInt64 = zJ (zG A B C x) := by
  unfold a_cu_valueAt zG
  rw [zI_long hx hx2]
  simp only [zJ_mul, zJ_add]
theorem zG_b {A B C x : Int} (h : zR A B C) (h1 : -120 ≤ x) (h2 : x ≤ 1501) : (zG A B C x).natAbs ≤ 10000000000 := by
  obtain ⟨a1, a2, b1, b2, c1, c2⟩ := h
  have e1 := zmulb (a := x + A) (b := x) (M := 1561) (N := 1501) (by omega) (by omega)
  have e2 := zmulb (a := (x + A) * x + B) (b := x) (M := 2343445) (N := 1501) (by omega) (by omega)
  unfold zG
  omega
theorem c_body {t M : Nat} {A B C x : Int} {dr xs ys : Nat → Int32} {l : List (Int × Int)} {n : Nat} (hR : zR A B C) (ht0 : 0 < t) (ht : t ≤ 32767) (hM : t ≤ M) (ha : dAr (dvs t 1 M) dr) (hl : (dvs t 1 M).length ≤ 64) (hx : -120 ≤ x) (hx2 : x ≤ 1500) (hc : cAr l xs ys) (hll : (l ++ pat t A B C x).length ≤ 31) (hn : 65 ≤ n) : ∃ xs' ys', cbody (zJ A) (zJ B) (zJ C) (zI ((dvs t 1 M).length : Int)) (zJ ((t * t : Nat) : Int)) dr n (zI x) xs ys (zI ((l.length + 1 : Nat) : Int)) = a_fp_collect_L14 (zJ A) (zJ B) (zJ C) (zI ((dvs t 1 M).length : Int)) (zJ ((t * t : Nat) : Int)) dr n (zI (x + 1)) xs' ys' (zI (((l ++ pat t A B C x).length + 1 : Nat) : Int)) ∧ cAr (l ++ pat t A B C x) xs' ys' := by
  have hb := zG_b (x := x) hR hx (by omega)
  have ex : zI x + 1 = zI (x + 1) := by rw [show (1 : Int32) = zI 1 from rfl, zI_add]
  unfold cbody
  rw [c_val (by omega) (by omega), ex]
  have e0 : zJ (zG A B C x) = 0 ↔ zG A B C x = 0 := by rw [show (0 : Int64) = zJ 0 from rfl]; exact zJ_eq (by omega) (by omega) (by omega) (by omega)
  by_cases h0 : zG A B C x = 0
  · rw [if_pos (e0.mpr h0)]
    rw [pat_0 h0] at hll ⊢
    have hll : l.length ≤ 30 := by rw [List.length_append, List.length_singleton] at hll; omega
    rw [show (0 : Int32) = zI 0 from rfl, c_app hll, Option.bind_some]
    dsimp only
    rw [c_ro0 ht0 ht ha hl (by omega) (fun y h1 h2 => by have := Nat.mul_pos h1 h1; omega) hn, Option.bind_some, if_pos rfl]
    exact ⟨_, _, rfl, cAr_app hc⟩
  · rw [if_neg (fun q => h0 (e0.mp q))]
    by_cases hy : ∃ y : Nat, 0 < y ∧ ((y * y : Nat) : Int) = zG A B C x ∧ y ∣ t
    · obtain ⟨y, y0, y1, y2⟩ := hy
      have hyt := Nat.le_of_dvd ht0 y2
      rw [pat_1 y0 y1 y2 (by omega)] at hll ⊢
      have hll : l.length ≤ 29 := by rw [List.length_append] at hll; simp at hll; omega
      have hll2 : (l ++ [(x, -(y : Int))]).length ≤ 30 := by rw [List.length_append, List.length_singleton]; omega
      rw [c_ro1 ht0 ht hM ha hl y0 y1 y2 hn, Option.bind_some, if_neg (by rw [show (-1 : Int32) = zI (-1) from rfl, zI_eq (by omega) (by omega) (by omega) (by omega)]; omega), zI_neg, c_app (by omega), Option.bind_some]
      dsimp only
      rw [c_app hll2, Option.bind_some]
      dsimp only
      rw [show l ++ [(x, -(y : Int)), (x, (y : Int))] = (l ++ [(x, -(y : Int))]) ++ [(x, (y : Int))] by simp]
      exact ⟨_, _, rfl, cAr_app (cAr_app hc)⟩
    · have hy' : ∀ y : Nat, 0 < y → ((y * y : Nat) : Int) = zG A B C x → ¬ y ∣ t := fun y a b c => hy ⟨y, a, b, c⟩
      rw [pat_n h0 hy', List.append_nil]
      rw [c_ro0 ht0 ht ha hl (by omega) hy' hn, Option.bind_some, if_pos rfl]
      exact ⟨_, _, rfl, hc⟩
theorem c_col {t M : Nat} {A B C : Int} {dr : Nat → Int32} (hR : zR A B C) (ht0 : 0 < t) (ht : t ≤ 32767) (hM : t ≤ M) (ha : dAr (dvs t 1 M) dr) (hl : (dvs t 1 M).length ≤ 64) : ∀ (m n : Nat) (x : Int) (l : List (Int × Int)) (xs ys : Nat → Int32), x + m = 1001 → -70 ≤ x → m + 100 ≤ n → cAr l xs ys → (l ++ pats t A B C x m).length ≤ 31 → ∃ xs' ys', a_fp_collect_L14 (zJ A) (zJ B) (zJ C) (zI ((dvs t 1 M).length : Int)) (zJ ((t * t : Nat) : Int)) dr n (zI x) xs ys (zI ((l.length + 1 : Nat) : Int)) = some (xs', ys', zI (((l ++ pats t A B C x m).length + 1 : Nat) : Int)) ∧ cAr (l ++ pats t A B C x m) xs' ys'
  | 0, n + 1, x, l, xs, ys, hx, _, _, hc, _ => by
    refine ⟨xs, ys, ?_, by rw [pats, List.append_nil]; exact hc⟩
    rw [c_l14, if_pos (by rw [show (1000 : Int32) = zI 1000 from rfl, zI_lt (by omega) (by omega) (by omega) (by omega)]; omega), pats, List.append_nil]
  | m + 1, n + 1, x, l, xs, ys, hx, hx2, hn, hc, hll => by
    have hb := zG_b (x := x) hR (by omega) (by omega)
    have h2 : t * t ≤ 32767 * 32767 := sq_b ht
    have hp : pats t A B C x (m + 1) = pat t A B C x ++ pats t A B C (x + 1) m := rfl
    rw [hp, ← List.append_assoc] at hll ⊢
    have hll1 : (l ++ pat t A B C x).length ≤ 31 := by rw [List.length_append] at hll; omega
    have go : ∃ xs' ys', cbody (zJ A) (zJ B) (zJ C) (zI ((dvs t 1 M).length : Int)) (zJ ((t * t : Nat) : Int)) dr n (zI x) xs ys (zI ((l.length + 1 : Nat) : Int)) = some (xs', ys', zI (((l ++ pat t A B C x ++ pats t A B C (x + 1) m).length + 1 : Nat) : Int)) ∧ cAr (l ++ pat t A B C x ++ pats t A B C (x + 1) m) xs' ys' := by
      obtain ⟨xs1, ys1, g1, g2⟩ := c_body (n := n) hR ht0 ht hM ha hl (x := x) (by omega) (by omega) hc hll1 (by omega)
      rw [g1]
      exact c_col hR ht0 ht hM ha hl m n (x + 1) _ xs1 ys1 (by omega) (by omega) (by omega) g2 hll
    rw [c_l14, if_neg (by rw [show (1000 : Int32) = zI 1000 from rfl, zI_lt (by omega) (by omega) (by omega) (by omega)]; omega)]
    have e1 : zI x < 23 ↔ x < 23 := by rw [show (23 : Int32) = zI 23 from rfl]; exact zI_lt (by omega) (by omega) (by omega) (by omega)
    by_cases h23 : x < 23
    · rw [if_pos (e1.mpr h23)]; exact go
    · rw [if_neg (fun q => h23 (e1.mp q)), c_val (by omega) (by omega)]
      have e2 : zJ (zG A B C x) ≤ zJ ((t * t : Nat) : Int) ↔ zG A B C x ≤ ((t * t : Nat) : Int) := zJ_le (by omega) (by omega) (by omega) (by omega)
      by_cases h3 : zG A B C x ≤ ((t * t : Nat) : Int)
      · rw [if_pos (e2.mpr h3)]; exact go
      · rw [if_neg (fun q => h3 (e2.mp q))]
        have hnil := pats_big (x := x) hR ht0 (by omega) (by omega) (m + 1)
        rw [hp] at hnil
        rw [List.append_assoc, hnil, List.append_nil]
        exact ⟨xs, ys, rfl, hc⟩
  | 0, 0, _, _, _, _, _, _, hn, _, _ => by omega
  | m + 1, 0, _, _, _, _, _, _, hn, _, _ => by omega
theorem c_coll {t M : Nat} {A B C : Int} {dr xs ys : Nat → Int32} {N : Nat} (hR : zR A B C) (ht0 : 0 < t) (htt : t * t ≤ 892366848) (ht : t ≤ 32767) (hM : t ≤ M) (ha : dAr (dvs t 1 M) dr) (hl : (dvs t 1 M).length ≤ 64) (hll : (raw t A B C).length ≤ 31) (hN : 2000 ≤ N) : ∃ xs' ys', a_fp_collect N xs ys (zJ A) (zJ B) (zJ C) (zI ((dvs t 1 M).length : Int)) (zJ ((t * t : Nat) : Int)) dr = some (xs', ys', zI (((raw t A B C).length + 1 : Nat) : Int)) ∧ cAr (raw t A B C) xs' ys' := by
  rw [raw_r hR ht0 htt] at hll ⊢
  have h0 : a_fp_append 0 xs ys 0 0 = some (upd xs 0 0, upd ys 0 0, zI (((([] : List (Int × Int)).length + 1 : Nat)) : Int)) := by
    unfold a_fp_append
    rw [if_neg (by decide), if_neg (by decide)]
    rfl
  unfold a_fp_collect
  rw [h0, Option.bind_some]
  generalize hpp : pats t A B C (-70) 1071 = P at hll ⊢
  have := c_col (dr := dr) hR ht0 ht hM ha hl 1071 N (-70) [] (upd xs 0 0) (upd ys 0 0) (by omega) (by omega) (by omega) ⟨rfl, rfl, fun i hi => by simp at hi⟩ (by rw [List.nil_append, hpp]; exact hll)
  rw [List.nil_append, hpp] at this
  exact this
