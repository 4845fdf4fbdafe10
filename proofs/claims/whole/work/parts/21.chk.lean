/-! the check of one curve, for the kernel -/
noncomputable def qB {α : Type} (b : Bool) (t f : α) : α := @Bool.rec (fun _ => α) f t b
noncomputable def qF {α : Type} (n : Nat) (f : Nat → α) : α := @Nat.rec (fun _ => α) (f 0) (fun k _ => f (Nat.succ k)) n
noncomputable def qieq (a b : Int) : Bool := @Int.rec (fun _ => Bool) (fun m => @Int.rec (fun _ => Bool) (fun n => Nat.beq m n) (fun _ => false) b) (fun m => @Int.rec (fun _ => Bool) (fun _ => false) (fun n => Nat.beq m n) b) a
/-- sum of two points: 0 nothing, 1 a sum, 2 not whole, 3 no divisor -/
noncomputable def qdv (A x y u ab be : Int) : Nat × Int × Int :=
  @Bool.rec (fun _ => Nat × Int × Int) (@Bool.rec (fun _ => Nat × Int × Int) (2, Int.ofNat 0, Int.ofNat 0) ((fun s : Int => (fun z : Int => (1, z, Int.neg (Int.add y (Int.mul s (Int.sub z x))))) (Int.sub (Int.sub (Int.sub (Int.mul s s) A) x) u)) (Int.tdiv ab be)) (Nat.beq (Nat.mod (Int.natAbs ab) (Int.natAbs be)) 0)) (3, Int.ofNat 0, Int.ofNat 0) (Nat.beq (Int.natAbs be) 0)
noncomputable def qadd (A B x y u v : Int) : Nat × Int × Int :=
  @Bool.rec (fun _ => Nat × Int × Int) (qdv A x y u (Int.sub v y) (Int.sub u x)) (@Bool.rec (fun _ => Nat × Int × Int) (qdv A x y u (Int.add (Int.mul (Int.add (Int.mul (Int.ofNat 3) x) (Int.mul (Int.ofNat 2) A)) x) B) (Int.mul (Int.ofNat 2) y)) (0, Int.ofNat 0, Int.ofNat 0) (qieq y (Int.neg v))) (qieq x u)
/-- the reference's order of (u, v): 0 none, 99 not to be -/
noncomputable def qch (A B u v : Int) (f : Nat) : Int → Int → Nat → Nat :=
  @Nat.rec (fun _ => Int → Int → Nat → Nat) (fun _ _ _ => 0) (fun _ ih x y n => (fun r : Nat × Int × Int => qB (Nat.beq r.1 1) (qB (Nat.ble (Int.natAbs r.2.1) 5000) (qB (Nat.ble (Int.natAbs r.2.2) 4000000) (ih r.2.1 r.2.2 (Nat.succ n)) 99) 0) (qB (Nat.beq r.1 0) (Nat.succ n) (qB (Nat.beq r.1 2) 0 99))) (qadd A B x y u v)) f
/-- the number of a point in a list, 0 if none -/
noncomputable def qfnd (z w : Int) (l : List (Int × Int)) : Nat → Nat :=
  @List.rec (Int × Int) (fun _ => Nat → Nat) (fun _ => 0) (fun p _ ih i => qB (qieq p.1 z) (qB (qieq p.2 w) i (ih (Nat.succ i))) (ih (Nat.succ i))) l
noncomputable def qnth (l : List (Int × Int)) : Nat → Int × Int :=
  @List.rec (Int × Int) (fun _ => Nat → Int × Int) (fun _ => (Int.ofNat 0, Int.ofNat 0)) (fun p _ ih k => qB (Nat.beq k 0) p (ih (Nat.pred k))) l
/-- the sum of numbers j, k in a list (0: O), 99 none -/
noncomputable def qsm (A B : Int) (R : List (Int × Int)) (j k : Nat) : Nat :=
  qB (Nat.beq j 0) k (qB (Nat.beq k 0) j ((fun p q : Int × Int => (fun r : Nat × Int × Int => qB (Nat.beq r.1 0) 0 (qB (Nat.beq r.1 1) ((fun i => qB (Nat.beq i 0) 99 i) (qfnd r.2.1 r.2.2 R 1)) 99)) (qadd A B p.1 p.2 q.1 q.2)) (qnth R (Nat.pred j)) (qnth R (Nat.pred k))))
/-- the order of number k in a list by its own sums, 0 none -/
noncomputable def qoc (A B : Int) (R : List (Int × Int)) (k f : Nat) : Nat → Nat → Nat :=
  @Nat.rec (fun _ => Nat → Nat → Nat) (fun _ _ => 0) (fun _ ih m n => qB (Nat.beq m 0) n (qB (Nat.beq m 99) 0 (ih (qsm A B R m k) (Nat.succ n)))) f
noncomputable def qrt (g f : Nat) : Nat → Nat → Nat :=
  @Nat.rec (fun _ => Nat → Nat → Nat) (fun _ r => r) (fun _ ih b r => qB (Nat.ble (Nat.mul (Nat.add r b) (Nat.add r b)) g) (ih (Nat.div b 2) (Nat.add r b)) (ih (Nat.div b 2) r)) f
noncomputable def qroot (g : Nat) : Nat := qrt g 16 32768 0
/-- the root of the largest square that divides a number -/
noncomputable def qend (n : Nat) : Nat := (fun s => qB (Nat.beq (Nat.mul s s) n) s 1) (qroot n)
noncomputable def qst (p : Nat) (k : Nat → Nat) (f : Nat) : Nat → Nat :=
  @Nat.rec (fun _ => Nat → Nat) k (fun _ ih n => qB (Nat.beq (Nat.mod n p) 0) (qB (Nat.beq (Nat.mod n (Nat.mul p p)) 0) (Nat.mul p (ih (Nat.div n (Nat.mul p p)))) (k (Nat.div n p))) (k n)) f
noncomputable def qtr (l : List Nat) : Nat → Nat :=
  @List.rec Nat (fun _ => Nat → Nat) qend (fun p _ ih n => @Bool.rec (fun _ => Nat) (qend n) (@Bool.rec (fun _ => Nat) (ih n) (qF n (qst p ih 32)) (Nat.beq (Nat.mod n p) 0)) (Nat.ble (Nat.mul (Nat.mul p p) p) n)) l
def qPL : List Nat := [2, 3, 4, 5, 6, 7, 8, 9, 10, 11, 12, 13, 14, 15, 16, 17, 18, 19, 20, 21, 22, 23, 24, 25, 26, 27, 28, 29, 30, 31, 32, 33, 34, 35, 36, 37, 38, 39, 40, 41, 42, 43, 44, 45, 46, 47, 48, 49, 50, 51, 52, 53, 54, 55, 56, 57, 58, 59, 60, 61, 62, 63, 64, 65, 66, 67, 68, 69, 70, 71, 72, 73, 74, 75, 76, 77, 78, 79, 80, 81, 82, 83, 84, 85, 86, 87, 88, 89, 90, 91, 92, 93, 94, 95, 96, 97, 98, 99, 100, 101, 102, 103, 104, 105, 106, 107, 108, 109, 110, 111, 112, 113, 114, 115, 116, 117, 118, 119, 120, 121, 122, 123, 124, 125, 126, 127, 128, 129, 130, 131, 132, 133, 134, 135, 136, 137, 138, 139, 140, 141, 142, 143, 144, 145, 146, 147, 148, 149, 150, 151, 152]
/-- the places k below a number with a value that divides T, or 0, the highest first -/
noncomputable def qscan (P2 P1 P0 T k : Nat) : List Nat :=
  @Nat.rec (fun _ => List Nat) [] (fun k ih => @Bool.rec (fun _ => List Nat) (@Bool.rec (fun _ => List Nat) ih (k :: ih) (Nat.beq (Nat.mul k (Nat.add (Nat.mul k k) P1)) (Nat.add (Nat.mul P2 (Nat.mul k k)) P0))) (k :: ih) (Nat.beq (Nat.mod T (Nat.sub (Nat.mul k (Nat.add (Nat.mul k k) P1)) (Nat.add (Nat.mul P2 (Nat.mul k k)) P0))) 0)) k
noncomputable def qpt (t P2 P1 P0 k : Nat) : List (Int × Int) :=
  (fun v => qB (Nat.beq v 0) [(Int.sub (Int.ofNat k) (Int.ofNat 71), Int.ofNat 0)] ((fun r => qB (Nat.beq (Nat.mul r r) v) (qB (Nat.beq (Nat.mod t r) 0) [(Int.sub (Int.ofNat k) (Int.ofNat 71), Int.neg (Int.ofNat r)), (Int.sub (Int.ofNat k) (Int.ofNat 71), Int.ofNat r)] []) []) (qroot v))) (Nat.sub (Nat.mul k (Nat.add (Nat.mul k k) P1)) (Nat.add (Nat.mul P2 (Nat.mul k k)) P0))
noncomputable def qpts (t P2 P1 P0 : Nat) (l : List Nat) : List (Int × Int) :=
  @List.rec Nat (fun _ => List (Int × Int)) [] (fun k _ ih => List.append ih (qpt t P2 P1 P0 k)) l
def qOL : List Nat := [94, 102, 110, 118, 126, 134, 142, 150, 158, 166, 174, 182, 190, 198, 206, 214, 222, 230, 238, 246, 254, 262, 278, 294, 310, 326, 342, 358, 374, 390, 406, 422, 438, 454, 470, 486, 502, 550, 598, 646, 694, 742, 790, 838, 886, 934, 982, 1030, 1070]
noncomputable def qtop (P2 P1 P0 T : Nat) (l : List Nat) (f : Nat → Bool) : Bool :=
  @List.rec Nat (fun _ => Bool) false (fun k _ ih => qB (Nat.ble (Nat.mul k (Nat.add (Nat.mul k k) P1)) (Nat.add (Nat.add (Nat.mul P2 (Nat.mul k k)) P0) T)) ih (f k)) l
