/-! the reference's sum is the check's -/
def yst (m1 mx my x y u AB BE : Int64) : Option (Int32 × Int32 × Int64 × Int64) :=
  if BE = 0 then none else if AB - AB / BE * BE = 0 then (if AB / BE * (AB / BE) - m1 - x - u < -5000 then some (0, 0, AB / BE * (AB / BE) - m1 - x - u, -(y + AB / BE * (AB / BE * (AB / BE) - m1 - x - u - x))) else if 5000 < AB / BE * (AB / BE) - m1 - x - u then some (0, 0, AB / BE * (AB / BE) - m1 - x - u, -(y + AB / BE * (AB / BE * (AB / BE) - m1 - x - u - x))) else some (0, 1, AB / BE * (AB / BE) - m1 - x - u, -(y + AB / BE * (AB / BE * (AB / BE) - m1 - x - u - x)))) else some (0, 0, mx, my)
theorem y_add (m1 m2 mx my x y u v : Int64) : a_md_add m1 m2 mx my 0 x y u v = if x = u then (if y = -v then some (1, 1, mx, my) else yst m1 mx my x y u (3 * x * x + 2 * m1 * x + m2) (2 * y)) else yst m1 mx my x y u (v - y) (u - x) := by
  unfold a_md_add
  rw [if_pos rfl]
  by_cases h : x = u
  · rw [if_pos h, if_pos h, if_pos h]; rfl
  · rw [if_neg h, if_neg h, if_neg h]; rfl
theorem y_add1 (m1 m2 mx my x y u v : Int64) : a_md_add m1 m2 mx my 1 x y u v = some (0, 1, u, v) := by
  unfold a_md_add
  rw [if_neg (by decide)]
/-- the sum's answer by the check's word -/
def yans (mx my : Int64) (r : Nat × Int × Int) : Option (Int32 × Int32 × Int64 × Int64) :=
  if r.1 = 0 then some (1, 1, mx, my) else if r.1 = 1 then (if r.2.1.natAbs ≤ 5000 then some (0, 1, zJ r.2.1, zJ r.2.2) else some (0, 0, zJ r.2.1, zJ r.2.2)) else if r.1 = 2 then some (0, 0, mx, my) else none
theorem y_st {A x y u ab be : Int} {mx my : Int64} (hA : A.natAbs ≤ 100) (hx : x.natAbs ≤ 5000) (hu : u.natAbs ≤ 5000) (hab : ab.natAbs ≤ 100000000) (hbe : be.natAbs ≤ 100000000) : yst (zJ A) mx my (zJ x) (zJ y) (zJ u) (zJ ab) (zJ be) = yans mx my (qdv A x y u ab be) := by
  have e0 : zJ be = zJ 0 ↔ be = 0 := zJ_eq (by omega) (by omega) (by omega) (by omega)
  have e1 := zJ_rem0 (a := ab) (b := be) (by omega) (by omega) (by omega) (by omega)
  unfold yst
  rw [show (0 : Int64) = zJ 0 from rfl]
  by_cases h0 : be = 0
  · rw [if_pos (e0.mpr h0), qdv_3 h0]; rfl
  rw [if_neg (fun h => h0 (e0.mp h))]
  by_cases hd : be ∣ ab
  · rw [if_pos (e1.mpr hd), qdv_1 h0 hd, zJ_div (by omega) (by omega) (by omega) (by omega)]
    have hs : (ab.tdiv be).natAbs ≤ 100000000 := ztdivb hab
    generalize ab.tdiv be = s at hs ⊢
    have h2 := zmulb hs hs
    rw [show (-5000 : Int64) = zJ (-5000) from rfl, show (5000 : Int64) = zJ 5000 from rfl]
    simp only [zJ_mul, zJ_sub, zJ_add, zJ_neg]
    generalize s * s = q at h2 ⊢
    have e2 : zJ (q - A - x - u) < zJ (-5000) ↔ q - A - x - u < -5000 := zJ_lt (by omega) (by omega) (by omega) (by omega)
    have e3 : zJ 5000 < zJ (q - A - x - u) ↔ 5000 < q - A - x - u := zJ_lt (by omega) (by omega) (by omega) (by omega)
    unfold yans
    dsimp only
    rw [if_neg (by decide : ¬ (1 : Nat) = 0), if_pos (rfl : (1 : Nat) = 1)]
    by_cases h3 : (q - A - x - u).natAbs ≤ 5000
    · rw [if_pos h3, if_neg (fun h => by have := e2.mp h; omega), if_neg (fun h => by have := e3.mp h; omega)]
    · rw [if_neg h3]
      by_cases h4 : q - A - x - u < -5000
      · rw [if_pos (e2.mpr h4)]
      · rw [if_neg (fun h => h4 (e2.mp h)), if_pos (e3.mpr (by omega))]
  · rw [if_neg (fun h => hd (e1.mp h)), qdv_2 h0 hd]; rfl
theorem y_ab {A B x : Int} (hA : A.natAbs ≤ 100) (hB : B.natAbs ≤ 1000) (hx : x.natAbs ≤ 5000) : ((3 * x + 2 * A) * x + B).natAbs ≤ 100000000 := by
  have := zmulb (a := 3 * x + 2 * A) (b := x) (M := 15200) (N := 5000) (by omega) hx
  omega
theorem y_addq {A B x y u v : Int} {mx my : Int64} (hA : A.natAbs ≤ 100) (hB : B.natAbs ≤ 1000) (hx : x.natAbs ≤ 5000) (hu : u.natAbs ≤ 5000) (hy : y.natAbs ≤ 4000000) (hv : v.natAbs ≤ 4000000) : a_md_add (zJ A) (zJ B) mx my 0 (zJ x) (zJ y) (zJ u) (zJ v) = yans mx my (qadd A B x y u v) := by
  have e0 : zJ x = zJ u ↔ x = u := zJ_eq (by omega) (by omega) (by omega) (by omega)
  have e1 : zJ y = - zJ v ↔ y = -v := by rw [zJ_neg]; exact zJ_eq (by omega) (by omega) (by omega) (by omega)
  rw [y_add]
  by_cases h : x = u
  · rw [if_pos (e0.mpr h)]
    by_cases h2 : y = -v
    · rw [if_pos (e1.mpr h2), qadd_0 h h2]; rfl
    · rw [if_neg (fun q => h2 (e1.mp q)), qadd_t h h2, show (3 : Int64) = zJ 3 from rfl, show (2 : Int64) = zJ 2 from rfl]
      simp only [zJ_mul, zJ_add]
      rw [show 3 * x * x + 2 * A * x + B = (3 * x + 2 * A) * x + B by rw [Int.add_mul]]
      exact y_st hA hx hu (y_ab hA hB hx) (by omega)
  · rw [if_neg (fun q => h (e0.mp q)), qadd_c h, zJ_sub, zJ_sub]
    exact y_st hA hx hu (by omega) (by omega)
/-- a sum with a small first number has a small second one -/
theorem qdv_w {A x y u ab be : Int} (hx : x.natAbs ≤ 5000) (hy : y.natAbs ≤ 4000000) (hab : ab.natAbs ≤ 100000000) (h1 : (qdv A x y u ab be).2.1.natAbs ≤ 5000) : (qdv A x y u ab be).2.2.natAbs ≤ 2000000000000 := by
  by_cases h0 : be = 0
  · rw [qdv_3 h0]; decide
  · by_cases hd : be ∣ ab
    · rw [qdv_1 h0 hd] at h1 ⊢
      have hs : (ab.tdiv be).natAbs ≤ 100000000 := ztdivb hab
      generalize ab.tdiv be = s at hs h1 ⊢
      dsimp only at h1 ⊢
      generalize s * s - A - x - u = z at h1 ⊢
      have := zmulb (a := s) (b := z - x) (M := 100000000) (N := 10000) hs (by omega)
      omega
    · rw [qdv_2 h0 hd]; decide
theorem qdv_z {A x y u ab be : Int} (hA : A.natAbs ≤ 100) (hx : x.natAbs ≤ 5000) (hu : u.natAbs ≤ 5000) (hab : ab.natAbs ≤ 100000000) : (qdv A x y u ab be).2.1.natAbs ≤ 100000000000000000 := by
  by_cases h0 : be = 0
  · rw [qdv_3 h0]; decide
  · by_cases hd : be ∣ ab
    · rw [qdv_1 h0 hd]
      have hs : (ab.tdiv be).natAbs ≤ 100000000 := ztdivb hab
      have := zmulb hs hs
      dsimp only
      omega
    · rw [qdv_2 h0 hd]; decide
