/-! the reference's search -/
def rAr (K : List (Int × Int)) (O : List Nat) (pa pb po : Nat → Int32) : Prop := qAr 1 K pa pb ∧ qOa 0 (1 :: O) po ∧ O.length = K.length
theorem qAr_app {l : List (Int × Int)} {xs ys : Nat → Int32} {x y : Int} (h3 : qAr 1 l xs ys) : qAr 1 (l ++ [(x, y)]) (upd xs (l.length + 1) (zI x)) (upd ys (l.length + 1) (zI y)) := by
  intro i hi
  rw [List.length_append, List.length_singleton] at hi
  unfold upd
  by_cases e : i = l.length
  · rw [if_pos (by omega), if_pos (by omega), e, qnth_l]
    exact ⟨rfl, rfl⟩
  · rw [if_neg (by omega), if_neg (by omega), qnth_a _ _ _ (by omega)]
    exact h3 i (by omega)
theorem qOa_app {l : List Nat} {os : Nat → Int32} {x : Nat} (h : qOa 0 l os) : qOa 0 (l ++ [x]) (upd os l.length (zI (x : Int))) := by
  intro i hi
  rw [List.length_append, List.length_singleton] at hi
  unfold upd
  by_cases e : i = l.length
  · rw [if_pos (by omega), e, List.getD_eq_getElem?_getD, List.getElem?_append_right (Nat.le_refl _), Nat.sub_self]; rfl
  · rw [if_neg (by omega), h i (by omega), List.getD_eq_getElem?_getD, List.getD_eq_getElem?_getD, List.getElem?_append_left (by omega)]
theorem r_take1 {A B x y : Int} {K : List (Int × Int)} {O : List Nat} {pa pb po : Nat → Int32} {n : Nat} (hA : A.natAbs ≤ 100) (hB : B.natAbs ≤ 1000) (hx : x.natAbs ≤ 5000) (hy : y.natAbs ≤ 4000000) (hK : K.length ≤ 30) (hr : rAr K O pa pb po) (hq : qch A B x y 12 x y 1 ≠ 99) (hn : 20 ≤ n) : ∃ (pa' pb' po' : Nat → Int32) (mz mw : Int32) (mx my : Int64), a_md_take n (zI ((K.length + 1 : Nat) : Int)) (zJ A) (zJ B) pa pb po (zI x) (zI y) = some (pa', pb', po', zI (((K ++ qkp A B [(x, y)]).length + 1 : Nat) : Int), mz, mw, mx, my) ∧ rAr (K ++ qkp A B [(x, y)]) (O ++ qko A B [(x, y)]) pa' pb' po' := by
  obtain ⟨r1, r2, r3⟩ := hr
  obtain ⟨mz, mw, mx, my, e⟩ := y_take (pa := pa) (pb := pb) (po := po) hA hB hx hy (mp := K.length + 1) (by omega) 12 1 n x y (by omega) (by omega) hx hy hq
  have ek : qkp A B [(x, y)] = if qch A B x y 12 x y 1 = 0 then [] else [(x, y)] := qkp_c A B (x, y) []
  have eo : qko A B [(x, y)] = if qch A B x y 12 x y 1 = 0 then [] else [qch A B x y 12 x y 1] := qko_c A B (x, y) []
  unfold a_md_take
  rw [zI_long (by omega) (by omega), zI_long (by omega) (by omega), show (1 : Int32) = zI ((1 : Nat) : Int) from rfl, show zI ((1 : Nat) : Int) = 1 from rfl] at *
  rw [show (1 : Int32) = zI ((1 : Nat) : Int) from rfl] at e ⊢
  rw [e, ek, eo]
  by_cases h0 : qch A B x y 12 x y 1 = 0
  · rw [if_pos h0, if_pos h0, if_pos h0, List.append_nil, List.append_nil]
    exact ⟨_, _, _, _, _, _, _, rfl, r1, r2, r3⟩
  · rw [if_neg h0, if_neg h0, if_neg h0]
    refine ⟨_, _, _, _, _, _, _, by rw [List.length_append]; rfl, qAr_app r1, ?_, by rw [List.length_append, List.length_append, r3]; rfl⟩
    have := qOa_app (x := qch A B x y 12 x y 1) r2
    rw [List.length_cons, r3] at this
    exact this
theorem r_val {A B C x : Int} (hx : -2147483648 ≤ x) (hx2 : x ≤ 2147483647) : a_md_cubic (zJ A) (zJ B) (zJ C) (zI x).toInt64 = zJ (zG A B C x) := c_val hx hx2
theorem r_disc (A B C : Int) : a_md_discriminantOf (zJ A) (zJ B) (zJ C) = zJ (qD A B C) := by
  rw [qD_e]
  unfold a_md_discriminantOf
  rw [show (4 : Int64) = zJ 4 from rfl, show (27 : Int64) = zJ 27 from rfl, show (18 : Int64) = zJ 18 from rfl]
  simp only [zJ_mul, zJ_add, zJ_sub]
theorem c_disc (A B C : Int) : a_cu_discriminantOf (zJ A) (zJ B) (zJ C) = zJ (qD A B C) := r_disc A B C
/-- one place of the reference's search -/
theorem r_cur {i1 i2 i3 i4 i5 : Int32} {t : Nat} {A B C : Int} (hR : zR A B C) (eA : ((i1 * i1) + ((4 : Int32) * i2)).toInt64 = zJ A) (eB : (((16 : Int32) * i4) + (((8 : Int32) * i1) * i3)).toInt64 = zJ B) (eC : ((((16 : Int32) * i3) * i3) + ((64 : Int32) * i5)).toInt64 = zJ C) (hD : (qD A B C).natAbs ≤ 892366848) (hs : sdr (qD A B C).natAbs t) (ht0 : 0 < t) (ht : t ≤ 32767) : ∀ (m n : Nat) (x : Int) (K : List (Int × Int)) (O : List Nat) (pa pb po : Nat → Int32) (mz mw : Int32) (mx my : Int64), x + m = 1501 → -120 ≤ x → m + 2000 ≤ n → rAr K O pa pb po → K.length + (pats t A B C x m).length ≤ 30 → (∀ p ∈ pats t A B C x m, qch A B p.1 p.2 12 p.1 p.2 1 ≠ 99) → ∃ (n' : Nat) (pa' pb' po' : Nat → Int32) (mz' mw' : Int32) (mx' my' : Int64), 1500 ≤ n' ∧ a_md_curve_L193 i1 i2 i3 i4 i5 n (zI x) pa pb po (zI ((K.length + 1 : Nat) : Int)) mz mw mx my = a_md_curve_L193 i1 i2 i3 i4 i5 n' (zI 1501) pa' pb' po' (zI (((K ++ qkp A B (pats t A B C x m)).length + 1 : Nat) : Int)) mz' mw' mx' my' ∧ rAr (K ++ qkp A B (pats t A B C x m)) (O ++ qko A B (pats t A B C x m)) pa' pb' po'
  | 0, n, x, K, O, pa, pb, po, mz, mw, mx, my, hx, _, hn, hr, _, _ => by
    refine ⟨n, pa, pb, po, mz, mw, mx, my, by omega, ?_, ?_⟩
    · rw [show x = 1501 by omega, show qkp A B (pats t A B C 1501 0) = [] from rfl, List.append_nil]
    · rw [show qkp A B (pats t A B C x 0) = [] from rfl, show qko A B (pats t A B C x 0) = [] from rfl, List.append_nil, List.append_nil]
      exact hr
  | m + 1, n + 1, x, K, O, pa, pb, po, mz, mw, mx, my, hx, hx2, hn, hr, hl, hq => by
    have hRR := hR
    obtain ⟨a1, a2, b1, b2, c1, c2⟩ := hRR
    have hb := zG_b (x := x) hR (by omega) (by omega)
    have ex : zI x + 1 = zI (x + 1) := by rw [show (1 : Int32) = zI 1 from rfl, zI_add]
    have hp : pats t A B C x (m + 1) = pat t A B C x ++ pats t A B C (x + 1) m := rfl
    rw [hp] at hq hl ⊢
    rw [List.length_append] at hl
    rw [qkp_app, qko_app, ← List.append_assoc, ← List.append_assoc]
    have ih := fun K O pa pb po mz mw mx my => r_cur hR eA eB eC hD hs ht0 ht m n (x + 1) K O pa pb po mz mw mx my (by omega) (by omega) (by omega)
    have hq2 : ∀ p ∈ pats t A B C (x + 1) m, qch A B p.1 p.2 12 p.1 p.2 1 ≠ 99 := fun p h => hq p (List.mem_append_right _ h)
    have hq1 : ∀ p ∈ pat t A B C x, qch A B p.1 p.2 12 p.1 p.2 1 ≠ 99 := fun p h => hq p (List.mem_append_left _ h)
    rw [a_md_curve_L193, if_neg (by rw [show (1500 : Int32) = zI 1500 from rfl, zI_lt (by omega) (by omega) (by omega) (by omega)]; omega), eA, eB, eC, r_val (by omega) (by omega), r_disc, ex]
    have e0 : zJ (zG A B C x) = 0 ↔ zG A B C x = 0 := by rw [show (0 : Int64) = zJ 0 from rfl]; exact zJ_eq (by omega) (by omega) (by omega) (by omega)
    have e1 : zJ (zG A B C x) ≤ 0 ↔ zG A B C x ≤ 0 := by rw [show (0 : Int64) = zJ 0 from rfl]; exact zJ_le (by omega) (by omega) (by omega) (by omega)
    by_cases h0 : zG A B C x = 0
    · rw [if_pos (e0.mpr h0)]
      rw [pat_0 h0] at hl hq1 ⊢
      obtain ⟨pa1, pb1, po1, z1, w1, x1, y1, g1, g2⟩ := r_take1 (A := A) (B := B) (x := x) (y := 0) (n := n) (by omega) (by omega) (by omega) (by decide) (by simp at hl; omega) hr (hq1 (x, 0) List.mem_cons_self) (by omega)
      have gl := (qk_len A B [(x, 0)]).2
      rw [show (0 : Int32) = zI 0 from rfl, g1, Option.bind_some]
      dsimp only
      exact ih _ _ pa1 pb1 po1 z1 w1 x1 y1 g2 (by rw [List.length_append]; simp at hl gl; omega) hq2
    rw [if_neg (fun q => h0 (e0.mp q))]
    by_cases h1 : zG A B C x ≤ 0
    · rw [if_pos (e1.mpr h1)]
      rw [pat_neg (by omega)] at hl ⊢
      rw [show qkp A B [] = [] from rfl, show qko A B [] = [] from rfl, List.append_nil, List.append_nil]
      exact ih K O pa pb po mz mw mx my hr (by simp at hl; omega) hq2
    rw [if_neg (fun q => h1 (e1.mp q)), if_neg (fun q => h0 (e0.mp q))]
    have e2 := zJ_rem0 (a := qD A B C) (b := zG A B C x) (by omega) (by omega) (by omega) (by omega)
    rw [show zJ 0 = (0 : Int64) from rfl] at e2
    have skip : pat t A B C x = [] → ∃ (n' : Nat) (pa' pb' po' : Nat → Int32) (mz' mw' : Int32) (mx' my' : Int64), 1500 ≤ n' ∧ a_md_curve_L193 i1 i2 i3 i4 i5 n (zI (x + 1)) pa pb po (zI ((K.length + 1 : Nat) : Int)) mz mw mx my = a_md_curve_L193 i1 i2 i3 i4 i5 n' (zI 1501) pa' pb' po' (zI (((K ++ qkp A B (pat t A B C x) ++ qkp A B (pats t A B C (x + 1) m)).length + 1 : Nat) : Int)) mz' mw' mx' my' ∧ rAr (K ++ qkp A B (pat t A B C x) ++ qkp A B (pats t A B C (x + 1) m)) (O ++ qko A B (pat t A B C x) ++ qko A B (pats t A B C (x + 1) m)) pa' pb' po' := by
      intro hz
      rw [hz, show qkp A B [] = [] from rfl, show qko A B [] = [] from rfl, List.append_nil, List.append_nil]
      exact ih K O pa pb po mz mw mx my hr (by omega) hq2
    obtain ⟨g, hg⟩ := Int.eq_ofNat_of_zero_le (show 0 ≤ zG A B C x by omega)
    by_cases h2 : zG A B C x ∣ qD A B C
    · rw [if_pos (e2.mpr h2)]
      obtain ⟨s, s1, s2⟩ := r_root (g := g) (N := n) (by omega) (by omega)
      rw [hg, s2, Option.bind_some]
      have hss : s * s ≤ 10000000000 := by have := s1.1; omega
      have hsb : s ≤ 131072 := by
        refine Nat.le_of_not_lt fun hlt => ?_
        have : 131073 * 131073 ≤ s * s := sq_b hlt
        omega
      rw [zI_long (by omega) (by omega), kJ_mul]
      have e3 : zJ ((s * s : Nat) : Int) = zJ (g : Int) ↔ s * s = g := kJ_eq (by omega) (by omega)
      by_cases h3 : s * s = g
      · rw [if_pos (e3.mpr h3)]
        have s0 : 0 < s := Nat.pos_of_ne_zero fun h => by rw [h] at h3; omega
        have hsd : s ∣ t := (hs s).mp (by rw [h3, ← Int.natAbs_dvd_natAbs, hg] at *; exact h2)
        have hst := Nat.le_of_dvd ht0 hsd
        rw [pat_1 s0 (by rw [hg, h3]) hsd (by omega)] at hl hq1 ⊢
        obtain ⟨pa1, pb1, po1, z1, w1, x1, y1, g1, g2⟩ := r_take1 (A := A) (B := B) (x := x) (y := -(s : Int)) (n := n) (by omega) (by omega) (by omega) (by omega) (by simp at hl; omega) hr (hq1 (x, -(s : Int)) List.mem_cons_self) (by omega)
        have gl := (qk_len A B [(x, -(s : Int))]).2
        obtain ⟨pa2, pb2, po2, z2, w2, x2, y2, f1, f2⟩ := r_take1 (A := A) (B := B) (x := x) (y := (s : Int)) (n := n) (by omega) (by omega) (by omega) (by omega) (by rw [List.length_append]; simp at hl gl; omega) g2 (hq1 (x, (s : Int)) (List.mem_cons_of_mem _ List.mem_cons_self)) (by omega)
        have gl2 := (qk_len A B [(x, (s : Int))]).2
        rw [zI_neg, g1, Option.bind_some]
        dsimp only
        rw [f1, Option.bind_some]
        dsimp only
        rw [show [(x, -(s : Int)), (x, (s : Int))] = [(x, -(s : Int))] ++ [(x, (s : Int))] from rfl, qkp_app, qko_app, ← List.append_assoc, ← List.append_assoc]
        exact ih _ _ pa2 pb2 po2 z2 w2 x2 y2 f2 (by rw [List.length_append, List.length_append]; simp at hl gl gl2; omega) hq2
      · rw [if_neg (fun q => h3 (e3.mp q))]
        refine skip (pat_n h0 (fun y y0 y1 y2 => h3 ?_))
        have : y * y = g := by omega
        rw [isq_u s1 (this ▸ isq_sq y)]; exact this
    · rw [if_neg (fun q => h2 (e2.mp q))]
      refine skip (pat_n h0 (fun y y0 y1 y2 => h2 ?_))
      rw [← y1, ← Int.natAbs_dvd_natAbs]
      exact (hs y).mpr y2
  | m + 1, 0, _, _, _, _, _, _, _, _, _, _, _, _, hn, _, _, _ => by omega
