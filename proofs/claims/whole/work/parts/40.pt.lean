/-! fractions -/
theorem sh_ok {X : Int} (h1 : -2147483648 ≤ X) (h2 : X ≤ 2147483647) {s : Nat} (hs : s < 4) : zI X >>> (zI (s : Int) &&& 31) = zI (X / ((2 ^ s : Nat) : Int)) := by
  have hb : ((zI (s : Int) &&& 31).toBitVec.smod 32).toNat = s := by
    have : ∀ s, s < 4 → ((zI ((s : Nat) : Int) &&& 31).toBitVec.smod 32).toNat = s := by decide +kernel
    exact this s hs
  have e : (zI X >>> (zI (s : Int) &&& 31)).toInt = X / ((2 ^ s : Nat) : Int) := by
    rw [← Int32.toInt_toBitVec, Int32.toBitVec_shiftRight, BitVec.sshiftRight_eq', hb, BitVec.toInt_sshiftRight, Int32.toInt_toBitVec, zI_toInt h1 h2, Int.shiftRight_eq_div_pow]
  rw [← zI_of (zI X >>> (zI (s : Int) &&& 31)), e]
theorem and1_ok (Y : Int) : (zI Y &&& (1 : Int32) = 0) ↔ Y % 2 = 0 := by
  have e : (zI Y &&& (1 : Int32)).toBitVec.toNat = ((Y % 4294967296).toNat) % 2 := by
    rw [Int32.toBitVec_and, BitVec.toNat_and, show (1 : Int32).toBitVec.toNat = 1 from rfl, Nat.and_one_is_mod, show (zI Y).toBitVec = BitVec.ofInt 32 Y from rfl, BitVec.toNat_ofInt]
    rfl
  constructor
  · intro h
    rw [h, show (0 : Int32).toBitVec.toNat = 0 from rfl] at e
    omega
  · intro h
    refine Int32.toBitVec_inj.mp (BitVec.eq_of_toNat_eq ?_)
    rw [e, show (0 : Int32).toBitVec.toNat = 0 from rfl]
    omega
theorem tw_e {X : Int} {L s n : Nat} (hL : L ≤ 3) (h : L ≤ s) (hs : s ≤ 3) : a_td_sharedTwos_L2 (zI X) (zI (L : Int)) (n + 1) (zI (s : Int)) = some (zI (s : Int)) := by
  rw [a_td_sharedTwos_L2, if_pos ((kI_le (by omega) (by omega)).mpr h)]
theorem tw_y {X d : Int} {L s n : Nat} (h1 : X.natAbs ≤ 10000000) (hL : L ≤ 3) (h : s < L) (hd : ((2 ^ s : Nat) : Int) = d) (hx : X / d % 2 = 0) : a_td_sharedTwos_L2 (zI X) (zI (L : Int)) (n + 1) (zI (s : Int)) = a_td_sharedTwos_L2 (zI X) (zI (L : Int)) n (zI ((s + 1 : Nat) : Int)) := by
  rw [a_td_sharedTwos_L2, if_neg (by rw [kI_le (by omega) (by omega)]; omega), sh_ok (by omega) (by omega) (by omega), hd, if_pos ((and1_ok _).mpr hx), kI_s]
theorem tw_n {X d : Int} {L s n : Nat} (h1 : X.natAbs ≤ 10000000) (hL : L ≤ 3) (h : s < L) (hd : ((2 ^ s : Nat) : Int) = d) (hx : ¬ X / d % 2 = 0) : a_td_sharedTwos_L2 (zI X) (zI (L : Int)) (n + 1) (zI (s : Int)) = some (zI (s : Int)) := by
  rw [a_td_sharedTwos_L2, if_neg (by rw [kI_le (by omega) (by omega)]; omega), sh_ok (by omega) (by omega) (by omega), hd, if_neg (fun q => hx ((and1_ok _).mp q))]
theorem gcd4 (n : Nat) : Nat.gcd n 4 = if n % 2 = 0 then (if n % 4 = 0 then 4 else 2) else 1 := by
  have h : ∀ r, r < 4 → Nat.gcd 4 r = if r % 2 = 0 then (if r = 0 then 4 else 2) else 1 := by decide +kernel
  rw [← gcd_st, h (n % 4) (Nat.mod_lt _ (by decide)), show n % 4 % 2 = n % 2 by omega]
theorem gcd8 (n : Nat) : Nat.gcd n 8 = if n % 2 = 0 then (if n % 4 = 0 then (if n % 8 = 0 then 8 else 4) else 2) else 1 := by
  have h : ∀ r, r < 8 → Nat.gcd 8 r = if r % 2 = 0 then (if r % 4 = 0 then (if r = 0 then 8 else 4) else 2) else 1 := by decide +kernel
  rw [← gcd_st, h (n % 8) (Nat.mod_lt _ (by decide)), show n % 8 % 2 = n % 2 by omega, show n % 8 % 4 = n % 4 by omega]
theorem m_com {X : Int} {y N : Nat} (h : X.natAbs ≤ 2147483647) (hy : y ≤ 100000) (hN : y < N) : a_md_common N (zI X) (zI (y : Int)) = some (zI (Nat.gcd X.natAbs y : Int)) := by
  unfold a_md_common
  have e : (0 : Int32) ≤ zI X ↔ 0 ≤ X := by rw [show (0 : Int32) = zI 0 from rfl]; exact zI_le (by omega) (by omega) (by omega) (by omega)
  have g := m_gcd y X.natAbs N h (by omega) hN
  by_cases h0 : 0 ≤ X
  · rw [if_pos (e.mpr h0)]
    rw [show (X.natAbs : Int) = X by omega] at g
    exact g
  · rw [if_neg (fun q => h0 (e.mp q)), zI_neg]
    rw [show (X.natAbs : Int) = -X by omega] at g
    exact g
theorem q_div {X : Int} {s : Nat} (h : X.natAbs ≤ 10000000) (hs : s ≤ 3) (hd : ((2 ^ s : Nat) : Int) ∣ X) : zI X >>> (zI (s : Int) &&& 31) = zI X / zI ((2 ^ s : Nat) : Int) := by
  have hp : 2 ^ s ≤ 8 := by
    have : ∀ s, s < 4 → 2 ^ s ≤ 8 := by decide +kernel
    exact this s (by omega)
  rw [sh_ok (by omega) (by omega) (by omega), zI_div (by omega) (by omega) (by omega) (by omega), Int.tdiv_eq_ediv_of_dvd hd]
theorem fr4 {X : Int} {N : Nat} (h : X.natAbs ≤ 10000000) (hN : 100 ≤ N) : ∃ s : Nat, s ≤ 2 ∧ a_td_sharedTwos N (zI X) 2 = some (zI (s : Int)) ∧ a_md_common N (zI X) 4 = some (zI ((2 ^ s : Nat) : Int)) ∧ ((2 ^ s : Nat) : Int) ∣ X := by
  obtain ⟨n, rfl⟩ : ∃ k, N = k + 1 + 1 + 1 + 1 := ⟨N - 4, by omega⟩
  have hg : a_md_common (n + 1 + 1 + 1 + 1) (zI X) 4 = some (zI (Nat.gcd X.natAbs 4 : Int)) := m_com (y := 4) (by omega) (by omega) (by omega)
  rw [gcd4] at hg
  by_cases h2 : X % 2 = 0
  · by_cases h4 : X % 4 = 0
    · refine ⟨2, by omega, (tw_y (s := 0) (L := 2) (d := 1) h (by omega) (by omega) rfl (by omega)).trans ((tw_y (s := 1) (L := 2) (d := 2) h (by omega) (by omega) rfl (by omega)).trans (tw_e (by omega) (by omega) (by omega))), ?_, Int.dvd_of_emod_eq_zero h4⟩
      rw [hg, if_pos (by omega), if_pos (by omega)]
    · refine ⟨1, by omega, (tw_y (s := 0) (L := 2) (d := 1) h (by omega) (by omega) rfl (by omega)).trans (tw_n (s := 1) (L := 2) (d := 2) h (by omega) (by omega) rfl (by omega)), ?_, Int.dvd_of_emod_eq_zero h2⟩
      rw [hg, if_pos (by omega), if_neg (by omega)]
  · refine ⟨0, by omega, tw_n (s := 0) (L := 2) (d := 1) h (by omega) (by omega) rfl (by omega), ?_, ⟨X, (Int.one_mul X).symm⟩⟩
    rw [hg, if_neg (by omega)]
theorem fr8 {X : Int} {N : Nat} (h : X.natAbs ≤ 10000000) (hN : 100 ≤ N) : ∃ s : Nat, s ≤ 3 ∧ a_td_sharedTwos N (zI X) 3 = some (zI (s : Int)) ∧ a_md_common N (zI X) 8 = some (zI ((2 ^ s : Nat) : Int)) ∧ ((2 ^ s : Nat) : Int) ∣ X := by
  obtain ⟨n, rfl⟩ : ∃ k, N = k + 1 + 1 + 1 + 1 := ⟨N - 4, by omega⟩
  have hg : a_md_common (n + 1 + 1 + 1 + 1) (zI X) 8 = some (zI (Nat.gcd X.natAbs 8 : Int)) := m_com (y := 8) (by omega) (by omega) (by omega)
  rw [gcd8] at hg
  by_cases h2 : X % 2 = 0
  · by_cases h4 : X % 4 = 0
    · by_cases h8 : X % 8 = 0
      · refine ⟨3, by omega, (tw_y (s := 0) (L := 3) (d := 1) h (by omega) (by omega) rfl (by omega)).trans ((tw_y (s := 1) (L := 3) (d := 2) h (by omega) (by omega) rfl (by omega)).trans ((tw_y (s := 2) (L := 3) (d := 4) h (by omega) (by omega) rfl (by omega)).trans (tw_e (by omega) (by omega) (by omega)))), ?_, Int.dvd_of_emod_eq_zero h8⟩
        rw [hg, if_pos (by omega), if_pos (by omega), if_pos (by omega)]
      · refine ⟨2, by omega, (tw_y (s := 0) (L := 3) (d := 1) h (by omega) (by omega) rfl (by omega)).trans ((tw_y (s := 1) (L := 3) (d := 2) h (by omega) (by omega) rfl (by omega)).trans (tw_n (s := 2) (L := 3) (d := 4) h (by omega) (by omega) rfl (by omega))), ?_, Int.dvd_of_emod_eq_zero h4⟩
        rw [hg, if_pos (by omega), if_pos (by omega), if_neg (by omega)]
    · refine ⟨1, by omega, (tw_y (s := 0) (L := 3) (d := 1) h (by omega) (by omega) rfl (by omega)).trans (tw_n (s := 1) (L := 3) (d := 2) h (by omega) (by omega) rfl (by omega)), ?_, Int.dvd_of_emod_eq_zero h2⟩
      rw [hg, if_pos (by omega), if_neg (by omega)]
  · refine ⟨0, by omega, tw_n (s := 0) (L := 3) (d := 1) h (by omega) (by omega) rfl (by omega), ?_, ⟨X, (Int.one_mul X).symm⟩⟩
    rw [hg, if_neg (by omega)]
theorem d4_ok : ∀ s : Nat, s < 4 → (4 : Int32) >>> (zI (s : Int) &&& 31) = 4 / zI ((2 ^ s : Nat) : Int) ∧ (8 : Int32) >>> (zI (s : Int) &&& 31) = 8 / zI ((2 ^ s : Nat) : Int) ∧ zI ((2 ^ s : Nat) : Int) ≠ 0 := by decide +kernel
