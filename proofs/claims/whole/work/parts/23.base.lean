/-! the check's words, read -/
theorem qB_eq {α : Type} (b : Bool) (t f : α) : qB b t f = if b = true then t else f := by cases b <;> rfl
theorem qF_eq {α : Type} (n : Nat) (f : Nat → α) : qF n f = f n := by cases n <;> rfl
theorem qieq_iff (a b : Int) : qieq a b = true ↔ a = b := by
  cases a <;> cases b <;> simp [qieq, Nat.beq_eq]
  omega
theorem qbeq (a b : Nat) : Nat.beq a b = true ↔ a = b := ⟨Nat.eq_of_beq_eq_true, fun h => h ▸ Nat.beq_refl a⟩
theorem qble (a b : Nat) : Nat.ble a b = true ↔ a ≤ b := ⟨Nat.le_of_ble_eq_true, Nat.ble_eq_true_of_le⟩
theorem kI_le {a b : Nat} (h1 : a ≤ 2147483647) (h2 : b ≤ 2147483647) : (zI (a : Int) ≤ zI (b : Int)) ↔ a ≤ b := by
  rw [zI_le (by omega) (by omega) (by omega) (by omega)]; omega
theorem kI_lt {a b : Nat} (h1 : a ≤ 2147483647) (h2 : b ≤ 2147483647) : (zI (a : Int) < zI (b : Int)) ↔ a < b := by
  rw [zI_lt (by omega) (by omega) (by omega) (by omega)]; omega
theorem kI_eq {a b : Nat} (h1 : a ≤ 2147483647) (h2 : b ≤ 2147483647) : (zI (a : Int) = zI (b : Int)) ↔ a = b := by
  rw [zI_eq (by omega) (by omega) (by omega) (by omega)]; omega
theorem kI_nat {a : Nat} (h1 : a ≤ 2147483647) : (zI (a : Int)).toNatClampNeg = a := by
  rw [zI_nat (by omega) (by omega)]; omega
theorem kI_neg {a : Nat} (h1 : a ≤ 2147483647) : ¬ zI (a : Int) < 0 := by
  rw [show (0 : Int32) = zI ((0 : Nat) : Int) from rfl, kI_lt h1 (by omega)]; omega
theorem kI_bad {a n : Nat} (h1 : a ≤ 2147483647) (h2 : a < n) : ¬ (zI (a : Int) < 0 ∨ n ≤ (zI (a : Int)).toNatClampNeg) := by
  rw [kI_nat h1]
  rintro (h | h)
  · exact kI_neg h1 h
  · omega
theorem kI_s (a : Nat) : zI (a : Int) + 1 = zI ((a + 1 : Nat) : Int) := by
  rw [show (1 : Int32) = zI 1 from rfl, zI_add]; rfl
theorem zmulb {a b : Int} {M N : Nat} (h1 : a.natAbs ≤ M) (h2 : b.natAbs ≤ N) : (a * b).natAbs ≤ M * N := by
  rw [Int.natAbs_mul]; exact Nat.mul_le_mul h1 h2
theorem ztdivb {a b : Int} {M : Nat} (h1 : a.natAbs ≤ M) : (a.tdiv b).natAbs ≤ M := by
  rw [Int.natAbs_tdiv]; exact Nat.le_trans (Nat.div_le_self _ _) h1
theorem zdvd_nat (a b : Int) : Nat.mod a.natAbs b.natAbs = 0 ↔ b ∣ a := by
  rw [← Int.natAbs_dvd_natAbs]
  exact ⟨Nat.dvd_of_mod_eq_zero, Nat.mod_eq_zero_of_dvd⟩
/-- the sum's last step, by its cases -/
theorem qdv_3 {A x y u ab be : Int} (h : be = 0) : qdv A x y u ab be = (3, 0, 0) := by
  subst h; rfl
theorem qdv_2 {A x y u ab be : Int} (h : be ≠ 0) (hd : ¬ be ∣ ab) : qdv A x y u ab be = (2, 0, 0) := by
  have h1 : Nat.beq be.natAbs 0 = false := by
    cases e : Nat.beq be.natAbs 0 with
    | false => rfl
    | true => rw [qbeq] at e; omega
  have h2 : Nat.beq (Nat.mod ab.natAbs be.natAbs) 0 = false := by
    cases e : Nat.beq (Nat.mod ab.natAbs be.natAbs) 0 with
    | false => rfl
    | true => rw [qbeq, zdvd_nat] at e; exact absurd e hd
  unfold qdv
  rw [h1, h2]; rfl
theorem qdv_1 {A x y u ab be : Int} (h : be ≠ 0) (hd : be ∣ ab) : qdv A x y u ab be = (1, ab.tdiv be * ab.tdiv be - A - x - u, -(y + ab.tdiv be * (ab.tdiv be * ab.tdiv be - A - x - u - x))) := by
  have h1 : Nat.beq be.natAbs 0 = false := by
    cases e : Nat.beq be.natAbs 0 with
    | false => rfl
    | true => rw [qbeq] at e; omega
  have h2 : Nat.beq (Nat.mod ab.natAbs be.natAbs) 0 = true := by rw [qbeq, zdvd_nat]; exact hd
  unfold qdv
  rw [h1, h2]; rfl
theorem qadd_0 {A B x y u v : Int} (h : x = u) (h2 : y = -v) : qadd A B x y u v = (0, 0, 0) := by
  have e1 := (qieq_iff x u).mpr h
  have e2 := (qieq_iff y (Int.neg v)).mpr h2
  unfold qadd
  rw [e1, e2]; rfl
theorem qadd_t {A B x y u v : Int} (h : x = u) (h2 : ¬ y = -v) : qadd A B x y u v = qdv A x y u ((3 * x + 2 * A) * x + B) (2 * y) := by
  have e1 := (qieq_iff x u).mpr h
  have e2 : qieq y (Int.neg v) = false := by
    cases e : qieq y (Int.neg v) with
    | false => rfl
    | true => rw [qieq_iff] at e; exact absurd e h2
  unfold qadd
  rw [e1, e2]; rfl
theorem qadd_c {A B x y u v : Int} (h : ¬ x = u) : qadd A B x y u v = qdv A x y u (v - y) (u - x) := by
  have e1 : qieq x u = false := by
    cases e : qieq x u with
    | false => rfl
    | true => rw [qieq_iff] at e; exact absurd e h
  unfold qadd
  rw [e1]; rfl
