/-! the law holds on every script -/
def zRel (dr xs ys os pa pb po : Nat → Int32) (hc ta tc : Int32) (sq li co di : Int64) (dn fn mh ma mc : Int32) (m1 m2 m3 m4 : Int64) (mp mr ml mf ms : Int32) : Prop :=
  (hc = 0 ∧ dn = 0 ∧ fn = 0 ∧ mh = 0) ∨ ∃ (a c A B C : Int) (t M : Nat) (K : List (Int × Int)) (O : List Nat), zCv dr xs ys os pa pb po a c A B C t M K O ∧ hc = 1 ∧ ta = zI a ∧ tc = zI c ∧ sq = zJ A ∧ li = zJ B ∧ co = zJ C ∧ di = zJ (qD A B C) ∧ dn = zI ((dvs t 1 M).length : Int) ∧ fn = zI ((K.length + 1 : Nat) : Int) ∧ mh = 1 ∧ ma = zI a ∧ mc = zI c ∧ m1 = zJ A ∧ m2 = zJ B ∧ m3 = zJ C ∧ m4 = zJ (qD A B C) ∧ mp = zI ((K.length + 1 : Nat) : Int) ∧ mr = zI (qR O : Int) ∧ ml = zI (qC O : Int) ∧ mf = zI (qP (qsm A B K) O : Int) ∧ ms = zI (qQ O : Int)
theorem s_disc {dr xs ys os pa pb po : Nat → Int32} {hc ta tc : Int32} {sq li co di : Int64} {dn fn mh ma mc : Int32} {m1 m2 m3 m4 : Int64} {mp mr ml mf ms : Int32} (h : zRel dr xs ys os pa pb po hc ta tc sq li co di dn fn mh ma mc m1 m2 m3 m4 mp mr ml mf ms)  : a_md_discriminant mh m4 = some (a_td_discriminant hc di, 0) := by
  rcases h with ⟨rfl, rfl, rfl, rfl⟩ | ⟨a, c, A, B, C, t, M, K, O, h, rfl, rfl, rfl, rfl, rfl, rfl, rfl, rfl, rfl, rfl, rfl, rfl, rfl, rfl, rfl, rfl, rfl, rfl, rfl, rfl, rfl⟩
  · rfl
  · rfl
theorem s_points {dr xs ys os pa pb po : Nat → Int32} {hc ta tc : Int32} {sq li co di : Int64} {dn fn mh ma mc : Int32} {m1 m2 m3 m4 : Int64} {mp mr ml mf ms : Int32} (h : zRel dr xs ys os pa pb po hc ta tc sq li co di dn fn mh ma mc m1 m2 m3 m4 mp mr ml mf ms)  : a_md_points mh mp = some (a_td_points fn, 0) := by
  rcases h with ⟨rfl, rfl, rfl, rfl⟩ | ⟨a, c, A, B, C, t, M, K, O, h, rfl, rfl, rfl, rfl, rfl, rfl, rfl, rfl, rfl, rfl, rfl, rfl, rfl, rfl, rfl, rfl, rfl, rfl, rfl, rfl, rfl⟩
  · rfl
  · rfl
theorem s_cand {dr xs ys os pa pb po : Nat → Int32} {hc ta tc : Int32} {sq li co di : Int64} {dn fn mh ma mc : Int32} {m1 m2 m3 m4 : Int64} {mp mr ml mf ms : Int32} (h : zRel dr xs ys os pa pb po hc ta tc sq li co di dn fn mh ma mc m1 m2 m3 m4 mp mr ml mf ms) {N : Nat} (hN : 80000 ≤ N) (i : Int32) : ∃ r, a_td_candidate dn dr i = some r ∧ a_md_candidate N mh m4 i = some (r, 0) := by
  rcases h with ⟨rfl, rfl, rfl, rfl⟩ | ⟨a, c, A, B, C, t, M, K, O, h, rfl, rfl, rfl, rfl, rfl, rfl, rfl, rfl, rfl, rfl, rfl, rfl, rfl, rfl, rfl, rfl, rfl, rfl, rfl, rfl, rfl⟩
  · exact ⟨_, n_cand hN i⟩
  · exact e_cand h hN i
theorem s_point {dr xs ys os pa pb po : Nat → Int32} {hc ta tc : Int32} {sq li co di : Int64} {dn fn mh ma mc : Int32} {m1 m2 m3 m4 : Int64} {mp mr ml mf ms : Int32} (h : zRel dr xs ys os pa pb po hc ta tc sq li co di dn fn mh ma mc m1 m2 m3 m4 mp mr ml mf ms) {N : Nat} (hN : 80000 ≤ N) (i j : Int32) : ∃ r, a_td_point N ta tc fn xs ys os i j = some r ∧ a_md_point N mh ma mc mp pa pb po i j = some (r, 0) := by
  rcases h with ⟨rfl, rfl, rfl, rfl⟩ | ⟨a, c, A, B, C, t, M, K, O, h, rfl, rfl, rfl, rfl, rfl, rfl, rfl, rfl, rfl, rfl, rfl, rfl, rfl, rfl, rfl, rfl, rfl, rfl, rfl, rfl, rfl⟩
  · exact ⟨_, n_point i j⟩
  · exact e_point h hN i j
theorem s_find {dr xs ys os pa pb po : Nat → Int32} {hc ta tc : Int32} {sq li co di : Int64} {dn fn mh ma mc : Int32} {m1 m2 m3 m4 : Int64} {mp mr ml mf ms : Int32} (h : zRel dr xs ys os pa pb po hc ta tc sq li co di dn fn mh ma mc m1 m2 m3 m4 mp mr ml mf ms) {N : Nat} (hN : 80000 ≤ N) (i j : Int32) : ∃ r, a_td_find N fn xs ys i j = some r ∧ a_md_find N mh mp pa pb i j = some (r, 0) := by
  rcases h with ⟨rfl, rfl, rfl, rfl⟩ | ⟨a, c, A, B, C, t, M, K, O, h, rfl, rfl, rfl, rfl, rfl, rfl, rfl, rfl, rfl, rfl, rfl, rfl, rfl, rfl, rfl, rfl, rfl, rfl, rfl, rfl, rfl⟩
  · exact ⟨_, n_find hN i j⟩
  · exact e_find h hN i j
theorem s_sum {dr xs ys os pa pb po : Nat → Int32} {hc ta tc : Int32} {sq li co di : Int64} {dn fn mh ma mc : Int32} {m1 m2 m3 m4 : Int64} {mp mr ml mf ms : Int32} (h : zRel dr xs ys os pa pb po hc ta tc sq li co di dn fn mh ma mc m1 m2 m3 m4 mp mr ml mf ms) {N : Nat} (hN : 80000 ≤ N) (i j : Int32) (mz mw : Int32) (mx my : Int64) : ∃ (r mz' mw' : Int32) (mx' my' : Int64), a_td_sum N sq li fn xs ys i j = some r ∧ a_md_sum N mh mp mz mw m1 m2 mx my pa pb i j = some (r, 0, mz', mw', mx', my') := by
  rcases h with ⟨rfl, rfl, rfl, rfl⟩ | ⟨a, c, A, B, C, t, M, K, O, h, rfl, rfl, rfl, rfl, rfl, rfl, rfl, rfl, rfl, rfl, rfl, rfl, rfl, rfl, rfl, rfl, rfl, rfl, rfl, rfl, rfl⟩
  · exact ⟨_, _, _, _, _, n_sum i j⟩
  · exact e_sum h hN i j mz mw mx my
theorem s_times {dr xs ys os pa pb po : Nat → Int32} {hc ta tc : Int32} {sq li co di : Int64} {dn fn mh ma mc : Int32} {m1 m2 m3 m4 : Int64} {mp mr ml mf ms : Int32} (h : zRel dr xs ys os pa pb po hc ta tc sq li co di dn fn mh ma mc m1 m2 m3 m4 mp mr ml mf ms) {N : Nat} (hN : 80000 ≤ N) (i j : Int32) (mz mw : Int32) (mx my : Int64) : ∃ (r mz' mw' : Int32) (mx' my' : Int64), a_td_times N sq li fn xs ys os i j = some r ∧ a_md_times N mh mp mz mw m1 m2 mx my pa pb po i j = some (r, 0, mz', mw', mx', my') := by
  rcases h with ⟨rfl, rfl, rfl, rfl⟩ | ⟨a, c, A, B, C, t, M, K, O, h, rfl, rfl, rfl, rfl, rfl, rfl, rfl, rfl, rfl, rfl, rfl, rfl, rfl, rfl, rfl, rfl, rfl, rfl, rfl, rfl, rfl⟩
  · exact ⟨_, _, _, _, _, n_times i j⟩
  · exact e_times h hN i j mz mw mx my
theorem s_str {dr xs ys os pa pb po : Nat → Int32} {hc ta tc : Int32} {sq li co di : Int64} {dn fn mh ma mc : Int32} {m1 m2 m3 m4 : Int64} {mp mr ml mf ms : Int32} (h : zRel dr xs ys os pa pb po hc ta tc sq li co di dn fn mh ma mc m1 m2 m3 m4 mp mr ml mf ms) {N : Nat} (hN : 80000 ≤ N) (i : Int32) : ∃ r, a_td_structure N hc sq li fn xs ys os i = some r ∧ a_md_structure_Ix mh mr ml mf ms i = some (r, 0) := by
  rcases h with ⟨rfl, rfl, rfl, rfl⟩ | ⟨a, c, A, B, C, t, M, K, O, h, rfl, rfl, rfl, rfl, rfl, rfl, rfl, rfl, rfl, rfl, rfl, rfl, rfl, rfl, rfl, rfl, rfl, rfl, rfl, rfl, rfl⟩
  · exact ⟨-1, rfl, rfl⟩
  · exact e_str h hN i
theorem s_mod {dr xs ys os pa pb po : Nat → Int32} {hc ta tc : Int32} {sq li co di : Int64} {dn fn mh ma mc : Int32} {m1 m2 m3 m4 : Int64} {mp mr ml mf ms : Int32} (h : zRel dr xs ys os pa pb po hc ta tc sq li co di dn fn mh ma mc m1 m2 m3 m4 mp mr ml mf ms) {N : Nat} (hN : 80000 ≤ N) (rc : Nat → Int32) (i : Int32) : (∃ e, a_td_modulo N hc sq li co di rc i = some (.inr e) ∧ a_md_modulo N mh m1 m2 m3 m4 i = some (0, zk_modulo (.inr e)) ∧ zk_modulo (.inr e) ≠ 0) ∨ ∃ r rc', a_td_modulo N hc sq li co di rc i = some (.inl (r, rc')) ∧ a_md_modulo N mh m1 m2 m3 m4 i = some (r, 0) := by
  rcases h with ⟨rfl, rfl, rfl, rfl⟩ | ⟨a, c, A, B, C, t, M, K, O, h, rfl, rfl, rfl, rfl, rfl, rfl, rfl, rfl, rfl, rfl, rfl, rfl, rfl, rfl, rfl, rfl, rfl, rfl, rfl, rfl, rfl⟩
  · exact Or.inl (n_mod hN rc i)
  · exact e_mod h hN rc i
theorem s_bnd {dr xs ys os pa pb po : Nat → Int32} {hc ta tc : Int32} {sq li co di : Int64} {dn fn mh ma mc : Int32} {m1 m2 m3 m4 : Int64} {mp mr ml mf ms : Int32} (h : zRel dr xs ys os pa pb po hc ta tc sq li co di dn fn mh ma mc m1 m2 m3 m4 mp mr ml mf ms) {N : Nat} (hN : 80000 ≤ N) (rc : Nat → Int32) (i : Int32) : ∃ r rc', a_td_bound N hc sq li co di rc i = some (r, rc') ∧ a_md_bound N mh m1 m2 m3 m4 i = some (r, 0) := by
  rcases h with ⟨rfl, rfl, rfl, rfl⟩ | ⟨a, c, A, B, C, t, M, K, O, h, rfl, rfl, rfl, rfl, rfl, rfl, rfl, rfl, rfl, rfl, rfl, rfl, rfl, rfl, rfl, rfl, rfl, rfl, rfl, rfl, rfl⟩
  · exact ⟨_, _, n_bnd hN rc i⟩
  · exact e_bnd h hN rc i
theorem updL_same (f : Nat → Int64) (k : Nat) (x : Int64) : vp_updL f k x k = x := by
  unfold vp_updL
  rw [if_pos rfl]
theorem lw_end {L k : Nat} (hL : L ≤ 3072) (hk : k ≤ L + 6) : (Int32.ofNat L - 6 < zI (k : Int)) ↔ L < k + 6 := by
  rw [← Int32.ofInt_eq_ofNat, show (6 : Int32) = zI 6 from rfl, show Int32.ofInt (L : Int) = zI (L : Int) from rfl, zI_sub, zI_lt (by omega) (by omega) (by omega) (by omega)]
  omega
theorem kI_p (k j : Nat) : zI (k : Int) + zI (j : Int) = zI ((k + j : Nat) : Int) := kI_add k j
set_option maxHeartbeats 4000000 in
set_option maxRecDepth 100000 in
theorem law_go (hen : zEn) {L : Nat} {sc : Nat → Int32} (hL : L ≤ 3072) : ∀ (m k n : Nat) (dr xs ys os pa pb po : Nat → Int32) (ov : Nat → Int64) (hc ta tc : Int32) (sq li co di : Int64) (dn : Int32) (dq : Int64) (fn mt mh ma mc : Int32) (m1 m2 m3 m4 : Int64) (mp mz mw : Int32) (mx my : Int64) (mr ml mf ms : Int32) (rc : Nat → Int32), L ≤ k + m → k ≤ L + 6 → m + 90000 ≤ n → zRel dr xs ys os pa pb po hc ta tc sq li co di dn fn mh ma mc m1 m2 m3 m4 mp mr ml mf ms → a_lw_law_L23 L sc n dr xs ys os pa pb po ov hc ta tc sq li co di dn dq fn mt mh ma mc m1 m2 m3 m4 mp mz mw mx my mr ml mf ms (zI (k : Int)) rc = some 1 := by
  intro m
  induction m with
  | zero =>
    intro k n dr xs ys os pa pb po ov hc ta tc sq li co di dn dq fn mt mh ma mc m1 m2 m3 m4 mp mz mw mx my mr ml mf ms rc hm hk hn h
    obtain ⟨n, rfl⟩ : ∃ j, n = j + 1 := ⟨n - 1, by omega⟩
    rw [a_lw_law_L23, if_pos ((lw_end hL hk).mpr (by omega))]
  | succ m ih =>
    intro k n dr xs ys os pa pb po ov hc ta tc sq li co di dn dq fn mt mh ma mc m1 m2 m3 m4 mp mz mw mx my mr ml mf ms rc hm hk hn h
    obtain ⟨n, rfl⟩ : ∃ j, n = j + 1 := ⟨n - 1, by omega⟩
    by_cases hlt : L < k + 6
    · rw [a_lw_law_L23, if_pos ((lw_end hL hk).mpr hlt)]
    have hN : 80000 ≤ n := by omega
    have p1 : zI (k : Int) + 1 = zI ((k + 1 : Nat) : Int) := kI_add k 1
    have p2 : zI (k : Int) + 2 = zI ((k + 2 : Nat) : Int) := kI_add k 2
    have p3 : zI (k : Int) + 3 = zI ((k + 3 : Nat) : Int) := kI_add k 3
    have p4 : zI (k : Int) + 4 = zI ((k + 4 : Nat) : Int) := kI_add k 4
    have p5 : zI (k : Int) + 5 = zI ((k + 5 : Nat) : Int) := kI_add k 5
    have p6 : zI (k : Int) + 6 = zI ((k + 6 : Nat) : Int) := kI_add k 6
    have b0 : ¬ (zI (k : Int) < 0 ∨ L ≤ (zI (k : Int)).toNatClampNeg) := kI_bad (by omega) (by omega)
    have b1 : ¬ (zI ((k + 1 : Nat) : Int) < 0 ∨ L ≤ (zI ((k + 1 : Nat) : Int)).toNatClampNeg) := kI_bad (by omega) (by omega)
    have b2 : ¬ (zI ((k + 2 : Nat) : Int) < 0 ∨ L ≤ (zI ((k + 2 : Nat) : Int)).toNatClampNeg) := kI_bad (by omega) (by omega)
    have b3 : ¬ (zI ((k + 3 : Nat) : Int) < 0 ∨ L ≤ (zI ((k + 3 : Nat) : Int)).toNatClampNeg) := kI_bad (by omega) (by omega)
    have b4 : ¬ (zI ((k + 4 : Nat) : Int) < 0 ∨ L ≤ (zI ((k + 4 : Nat) : Int)).toNatClampNeg) := kI_bad (by omega) (by omega)
    have b5 : ¬ (zI ((k + 5 : Nat) : Int) < 0 ∨ L ≤ (zI ((k + 5 : Nat) : Int)).toNatClampNeg) := kI_bad (by omega) (by omega)
    rw [a_lw_law_L23, if_neg (fun q => hlt ((lw_end hL hk).mp q)), if_neg b0, p6]
    generalize sc (zI (k : Int)).toNatClampNeg &&& (15 : Int32) = op
    by_cases c0 : op = 0
    · rw [if_pos c0, p1, p2, p3, p4, p5, if_neg b1, if_neg b2, if_neg b3, if_neg b4, if_neg b5]
      generalize sc (zI ((k + 1 : Nat) : Int)).toNatClampNeg = i1
      generalize sc (zI ((k + 2 : Nat) : Int)).toNatClampNeg = i2
      generalize sc (zI ((k + 3 : Nat) : Int)).toNatClampNeg = i3
      generalize sc (zI ((k + 4 : Nat) : Int)).toNatClampNeg = i4
      generalize sc (zI ((k + 5 : Nat) : Int)).toNatClampNeg = i5
      rcases e_curve hen hN dr xs ys os pa pb po mh ma mc mp mz mw mr ml mf ms m1 m2 m3 m4 mx my i1 i2 i3 i4 i5 with ⟨e, h1, h2, h3⟩ | ⟨dr', xs', ys', os', pa', pb', po', a, c, A, B, C, t, M, K, O, mz', mw', mx', my', dq', hv, h1, h2⟩
      · rw [h1, ob]
        dsimp only
        rw [h2, ob]
        dsimp only
        rw [if_pos (show a_md_thrown (zk_curve (.inr e)) = zk_curve (.inr e) from rfl), if_neg h3]
        exact ih _ _ _ _ _ _ _ _ _ _ _ _ _ _ _ _ _ _ _ _ _ _ _ _ _ _ _ _ _ _ _ _ _ _ _ _ _ _ (by omega) (by omega) (by omega) h
      · rw [h1, ob]
        dsimp only
        rw [h2, ob]
        dsimp only
        rw [if_pos (show a_md_thrown 0 = (0 : Int32) from rfl), if_pos (updL_same _ _ _)]
        exact ih _ _ _ _ _ _ _ _ _ _ _ _ _ _ _ _ _ _ _ _ _ _ _ _ _ _ _ _ _ _ _ _ _ _ _ _ _ _ (by omega) (by omega) (by omega) (Or.inr ⟨a, c, A, B, C, t, M, K, O, hv, rfl, rfl, rfl, rfl, rfl, rfl, rfl, rfl, rfl, rfl, rfl, rfl, rfl, rfl, rfl, rfl, rfl, rfl, rfl, rfl, rfl⟩)
    rw [if_neg c0]
    by_cases c1 : op = 1
    · rw [if_pos c1]
      rw [s_disc h, ob]
      dsimp only
      rw [if_pos rfl]
      exact ih _ _ _ _ _ _ _ _ _ _ _ _ _ _ _ _ _ _ _ _ _ _ _ _ _ _ _ _ _ _ _ _ _ _ _ _ _ _ (by omega) (by omega) (by omega) h
    rw [if_neg c1]
    by_cases c2 : op = 2
    · rw [if_pos c2, p1, if_neg b1]
      obtain ⟨r, h1, h2⟩ := s_cand h hN (sc (zI ((k + 1 : Nat) : Int)).toNatClampNeg)
      rw [h1, ob, h2, ob]
      dsimp only
      rw [if_pos rfl]
      exact ih _ _ _ _ _ _ _ _ _ _ _ _ _ _ _ _ _ _ _ _ _ _ _ _ _ _ _ _ _ _ _ _ _ _ _ _ _ _ (by omega) (by omega) (by omega) h
    rw [if_neg c2]
    by_cases c3 : op = 3
    · rw [if_pos c3]
      rw [s_points h, ob]
      dsimp only
      rw [if_pos rfl]
      exact ih _ _ _ _ _ _ _ _ _ _ _ _ _ _ _ _ _ _ _ _ _ _ _ _ _ _ _ _ _ _ _ _ _ _ _ _ _ _ (by omega) (by omega) (by omega) h
    rw [if_neg c3]
    by_cases c4 : op = 4
    · rw [if_pos c4, p1, p2, if_neg b1, if_neg b2]
      obtain ⟨r, h1, h2⟩ := s_point h hN (sc (zI ((k + 1 : Nat) : Int)).toNatClampNeg) (sc (zI ((k + 2 : Nat) : Int)).toNatClampNeg)
      rw [h1, ob, h2, ob]
      dsimp only
      rw [if_pos rfl]
      exact ih _ _ _ _ _ _ _ _ _ _ _ _ _ _ _ _ _ _ _ _ _ _ _ _ _ _ _ _ _ _ _ _ _ _ _ _ _ _ (by omega) (by omega) (by omega) h
    rw [if_neg c4]
    by_cases c5 : op = 5
    · rw [if_pos c5, p1, p2, if_neg b1, if_neg b2]
      obtain ⟨r, h1, h2⟩ := s_find h hN (sc (zI ((k + 1 : Nat) : Int)).toNatClampNeg) (sc (zI ((k + 2 : Nat) : Int)).toNatClampNeg)
      rw [h1, ob, h2, ob]
      dsimp only
      rw [if_pos rfl]
      exact ih _ _ _ _ _ _ _ _ _ _ _ _ _ _ _ _ _ _ _ _ _ _ _ _ _ _ _ _ _ _ _ _ _ _ _ _ _ _ (by omega) (by omega) (by omega) h
    rw [if_neg c5]
    by_cases c6 : op = 6
    · rw [if_pos c6, p1, p2, if_neg b1, if_neg b2]
      obtain ⟨r, mz', mw', mx', my', h1, h2⟩ := s_sum h hN (sc (zI ((k + 1 : Nat) : Int)).toNatClampNeg) (sc (zI ((k + 2 : Nat) : Int)).toNatClampNeg) mz mw mx my
      rw [h1, ob, h2, ob]
      dsimp only
      rw [if_pos rfl]
      exact ih _ _ _ _ _ _ _ _ _ _ _ _ _ _ _ _ _ _ _ _ _ _ _ _ _ _ _ _ _ _ _ _ _ _ _ _ _ _ (by omega) (by omega) (by omega) h
    rw [if_neg c6]
    by_cases c7 : op = 7
    · rw [if_pos c7, p1, p2, if_neg b1, if_neg b2]
      obtain ⟨r, mz', mw', mx', my', h1, h2⟩ := s_times h hN (sc (zI ((k + 1 : Nat) : Int)).toNatClampNeg) (sc (zI ((k + 2 : Nat) : Int)).toNatClampNeg) mz mw mx my
      rw [h1, ob, h2, ob]
      dsimp only
      rw [if_pos rfl]
      exact ih _ _ _ _ _ _ _ _ _ _ _ _ _ _ _ _ _ _ _ _ _ _ _ _ _ _ _ _ _ _ _ _ _ _ _ _ _ _ (by omega) (by omega) (by omega) h
    rw [if_neg c7]
    by_cases c8 : op = 8
    · rw [if_pos c8, p1, if_neg b1]
      obtain ⟨r, h1, h2⟩ := s_str h hN (sc (zI ((k + 1 : Nat) : Int)).toNatClampNeg)
      rw [h1, ob, h2, ob]
      dsimp only
      rw [if_pos rfl]
      exact ih _ _ _ _ _ _ _ _ _ _ _ _ _ _ _ _ _ _ _ _ _ _ _ _ _ _ _ _ _ _ _ _ _ _ _ _ _ _ (by omega) (by omega) (by omega) h
    rw [if_neg c8]
    by_cases c9 : op = 9
    · rw [if_pos c9, p1, if_neg b1]
      rcases s_mod h hN rc (sc (zI ((k + 1 : Nat) : Int)).toNatClampNeg) with ⟨e, h1, h2, h3⟩ | ⟨r, rc', h1, h2⟩
      · rw [h1, ob]
        dsimp only
        rw [h2, ob]
        dsimp only
        rw [if_pos (show a_md_thrown (zk_modulo (.inr e)) = zk_modulo (.inr e) from rfl), if_neg h3]
        exact ih _ _ _ _ _ _ _ _ _ _ _ _ _ _ _ _ _ _ _ _ _ _ _ _ _ _ _ _ _ _ _ _ _ _ _ _ _ _ (by omega) (by omega) (by omega) h
      · rw [h1, ob]
        dsimp only
        rw [h2, ob]
        dsimp only
        rw [if_pos (show a_md_thrown 0 = (0 : Int32) from rfl), if_pos (updL_same _ _ _)]
        exact ih _ _ _ _ _ _ _ _ _ _ _ _ _ _ _ _ _ _ _ _ _ _ _ _ _ _ _ _ _ _ _ _ _ _ _ _ _ _ (by omega) (by omega) (by omega) h
    rw [if_neg c9]
    by_cases c10 : op = 10
    · rw [if_pos c10, p1, if_neg b1]
      obtain ⟨r, rc', h1, h2⟩ := s_bnd h hN rc (sc (zI ((k + 1 : Nat) : Int)).toNatClampNeg)
      rw [h1, ob]
      dsimp only
      rw [h2, ob]
      dsimp only
      rw [if_pos rfl]
      exact ih _ _ _ _ _ _ _ _ _ _ _ _ _ _ _ _ _ _ _ _ _ _ _ _ _ _ _ _ _ _ _ _ _ _ _ _ _ _ (by omega) (by omega) (by omega) h
    rw [if_neg c10]
    exact ih _ _ _ _ _ _ _ _ _ _ _ _ _ _ _ _ _ _ _ _ _ _ _ _ _ _ _ _ _ _ _ _ _ _ _ _ _ _ (by omega) (by omega) (by omega) h
theorem zGoal_of (hen : zEn) : zGoal := fun L sc hL => ⟨L + 90000, law_go hen hL L 0 (L + 90000) _ _ _ _ _ _ _ _ _ _ _ _ _ _ _ _ _ _ _ _ _ _ _ _ _ _ _ _ _ _ _ _ _ _ _ _ (by omega) (by omega) (by omega) (Or.inl ⟨rfl, rfl, rfl, rfl⟩)⟩
