/-! the check of a curve's points -/
noncomputable def qall (f : Nat → Bool) (n : Nat) : Bool := @Nat.rec (fun _ => Bool) true (fun k ih => qB (f k) ih false) n
/-- each point's order by the list is the reference's -/
noncomputable def qord (A B : Int) (R l : List (Int × Int)) : Nat → Bool :=
  @List.rec (Int × Int) (fun _ => Nat → Bool) (fun _ => true) (fun p _ ih k => qF (qch A B p.1 p.2 12 p.1 p.2 1) (fun n => qB (Nat.beq n 99) false (qB (Nat.beq (qoc A B R k 12 k 1) n) (ih (Nat.succ k)) false))) l
noncomputable def qkp (A B : Int) (l : List (Int × Int)) : List (Int × Int) :=
  @List.rec (Int × Int) (fun _ => List (Int × Int)) [] (fun p _ ih => qB (Nat.beq (qch A B p.1 p.2 12 p.1 p.2 1) 0) ih (p :: ih)) l
noncomputable def qko (A B : Int) (l : List (Int × Int)) : List Nat :=
  @List.rec (Int × Int) (fun _ => List Nat) [] (fun p _ ih => qB (Nat.beq (qch A B p.1 p.2 12 p.1 p.2 1) 0) ih (qch A B p.1 p.2 12 p.1 p.2 1 :: ih)) l
noncomputable def qclo (A B : Int) (K : List (Int × Int)) : Bool :=
  qall (fun j => qB (Nat.beq (qfnd (qnth K j).1 (qnth K j).2 K 1) (Nat.succ j)) (qall (fun k => Nat.ble (qsm A B K (Nat.succ j) (Nat.succ k)) K.length) K.length) false) K.length
/-- the greatest order -/
noncomputable def qmax (O : List Nat) : Nat → Nat :=
  @List.rec Nat (fun _ => Nat → Nat) (fun m => m) (fun o _ ih m => ih (qB (Nat.ble o m) m o)) O
/-- the first place with a number -/
noncomputable def qfst (n : Nat) (O : List Nat) : Nat → Nat :=
  @List.rec Nat (fun _ => Nat → Nat) (fun _ => 99) (fun o _ ih k => qB (Nat.beq o n) k (ih (Nat.succ k))) O
noncomputable def qmul (T : Nat → Nat → Nat) (k i : Nat) : Nat := @Nat.rec (fun _ => Nat) 0 (fun _ ih => T ih k) i
noncomputable def qism (T : Nat → Nat → Nat) (x q f : Nat) : Nat → Bool :=
  @Nat.rec (fun _ => Nat → Bool) (fun _ => false) (fun _ ih r => qB (Nat.beq r x) true (ih (T r q))) f
noncomputable def qmeet (T : Nat → Nat → Nat) (k q c : Nat) : Nat → Bool :=
  @Nat.rec (fun _ => Nat → Bool) (fun _ => true) (fun _ ih i => qB (qism T (qmul T k i) q 12 0) false (ih (Nat.succ i))) c
/-- the class's first maker -/
noncomputable def qsmk (T : Nat → Nat → Nat) (m q : Nat) (O : List Nat) : Nat → Nat :=
  @List.rec Nat (fun _ => Nat → Nat) (fun _ => 99) (fun o _ ih k => qB (Nat.beq o m) (qB (qmeet T k q (Nat.pred o) 1) k (ih (Nat.succ k))) (ih (Nat.succ k))) O
/-- what the reference sees -/
noncomputable def qrow (T : Nat → Nat → Nat) (q c : Nat) : Nat → Int64 → Int64 :=
  @Nat.rec (fun _ => Nat → Int64 → Int64) (fun _ s => s) (fun _ ih a s => ih (T a q) (s ||| ((1 : Int64) <<< ((zI (Int.ofNat a)).toInt64 &&& 63)))) c
noncomputable def qsee (T : Nat → Nat → Nat) (p q c r : Nat) : Nat → Int64 → Int64 :=
  @Nat.rec (fun _ => Nat → Int64 → Int64) (fun _ s => s) (fun _ ih a s => ih (T a p) (qrow T q c a s)) r
noncomputable def qmk (T : Nat → Nat → Nat) (n p q c r : Nat) : Bool :=
  decide (qsee T p q c r 0 0 = ((1 : Int64) <<< ((zI (Int.ofNat n)).toInt64 &&& 63)) - (1 : Int64))
/-- the reference's first maker: the orders without the last -/
noncomputable def qfir (T : Nat → Nat → Nat) (n q c r : Nat) (O : List Nat) : Nat → Nat :=
  @List.rec Nat (fun _ => Nat → Nat) (fun k => k) (fun o _ ih k => qB (Nat.beq o r) (qB (qmk T n k q c r) k (ih (Nat.succ k))) (ih (Nat.succ k))) O
noncomputable def qstr (T : Nat → Nat → Nat) (O : List Nat) : Bool :=
  qF (qmax O 1) (fun c => qF (Nat.div O.length c) (fun r => qF (qfst c O 0) (fun q => qB (Nat.beq q 99) false (Nat.beq (qsmk T r q O 0) (qfir T O.length q c r O.dropLast 0)))))
noncomputable def qpo (A B : Int) (R : List (Int × Int)) : Bool :=
  qB (Nat.ble R.length 17) (qB (qord A B R R 1) (@List.rec (Int × Int) (fun _ => Bool) true (fun p l _ => qB (qclo A B (p :: l)) (qstr (qsm A B (p :: l)) (1 :: qko A B R)) false) (qkp A B R)) false) false
noncomputable def qD (A B C : Int) : Int := Int.add (Int.mul A (Int.mul A (Int.sub (Int.mul B B) (Int.mul (Int.ofNat 4) (Int.mul A C))))) (Int.sub (Int.mul B (Int.sub (Int.mul (Int.ofNat 18) (Int.mul A C)) (Int.mul (Int.ofNat 4) (Int.mul B B)))) (Int.mul (Int.ofNat 27) (Int.mul C C)))
noncomputable def qcnt (t m : Nat) : Nat := @Nat.rec (fun _ => Nat) 0 (fun k ih => @Bool.rec (fun _ => Nat) ih (Nat.succ ih) (Nat.beq (Nat.mod t (Nat.succ k)) 0)) m
noncomputable def qpar (A B C : Int) (f : Nat → Nat → Nat → Bool) : Bool := qF (Int.toNat (Int.sub (Int.ofNat 213) A)) (fun P2 => qF (Int.toNat (Int.add (Int.sub (Int.ofNat 15123) (Int.mul (Int.ofNat 142) A)) B)) (fun P1 => qF (Int.toNat (Int.sub (Int.add (Int.sub (Int.ofNat 357911) (Int.mul (Int.ofNat 5041) A)) (Int.mul (Int.ofNat 71) B)) C)) (fun P0 => f P2 P1 P0)))
noncomputable def qone (A B C : Int) : Bool := qF (Int.natAbs (qD A B C)) (fun n => qB (Nat.beq n 0) true (qB (Nat.ble n 892366848) (qB (Nat.beq (Nat.mod n 256) 0) (qF (qtr qPL n) (fun t => qB (Nat.ble (qcnt t (qroot t)) 32) (qF (Nat.mul t t) (fun T => qpar A B C (fun P2 P1 P0 => qtop P2 P1 P0 T qOL (fun k => qpo A B (qpts t P2 P1 P0 (qscan P2 P1 P0 T k)))))) false)) false) false))
