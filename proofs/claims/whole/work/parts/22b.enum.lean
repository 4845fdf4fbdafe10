/-! the check of all curves -/
noncomputable def qFI (a : Int) (f : Int → Bool) : Bool := @Int.rec (fun _ => Bool) (fun n => qF n (fun m => f (Int.ofNat m))) (fun n => qF n (fun m => f (Int.negSucc m))) a
noncomputable def qany (f : Nat → Bool) (l : List Nat) : Bool := @List.rec Nat (fun _ => Bool) false (fun a _ ih => qB (f a) true ih) l
noncomputable def qal (f : Nat → Bool) (l : List Nat) : Bool := @List.rec Nat (fun _ => Bool) true (fun a _ ih => qB (f a) ih false) l
noncomputable def qfk (f : Nat → Bool) (k : List Nat → Bool) (l : List Nat) : List Nat → Bool := @List.rec Nat (fun _ => List Nat → Bool) k (fun a _ ih acc => qB (f a) (ih (a :: acc)) (ih acc)) l
def qI6 : List Nat := [0, 1, 2, 3, 4, 5, 6]
def qL43 : List Nat := [0, 1, 4, 5, 8, 9, 12, 13, 16, 17, 20, 21, 24, 25, 28, 29, 32, 33, 36, 37, 40, 41, 44, 45, 48, 49, 52, 53, 56, 57, 60, 61, 64, 65, 68, 69, 72, 73, 76, 77, 80, 81, 84]
def qL97 : List Nat := [0, 1, 2, 3, 4, 5, 6, 7, 8, 9, 10, 11, 12, 13, 14, 15, 16, 17, 18, 19, 20, 21, 22, 23, 24, 25, 26, 27, 28, 29, 30, 31, 32, 33, 34, 35, 36, 37, 38, 39, 40, 41, 42, 43, 44, 45, 46, 47, 48, 49, 50, 51, 52, 53, 54, 55, 56, 57, 58, 59, 60, 61, 62, 63, 64, 65, 66, 67, 68, 69, 70, 71, 72, 73, 74, 75, 76, 77, 78, 79, 80, 81, 82, 83, 84, 85, 86, 87, 88, 89, 90, 91, 92, 93, 94, 95, 96]
noncomputable def qsq (c g : Nat) : Bool := qB (Nat.ble (Nat.mul g g) c) (qB (Nat.ble c (Nat.add (Nat.mul g g) 48)) (Nat.beq (Nat.mod (Nat.sub c (Nat.mul g g)) 4) 0) false) false
noncomputable def qac (b g a : Nat) : Bool := qB (Nat.beq (Nat.mod (Nat.add b (Nat.mul a g)) 2) 0) (qB (qB (Nat.ble 36 (Nat.add b (Nat.mul a g))) (Nat.ble (Nat.add b (Nat.mul a g)) 60) false) true (qB (Nat.ble (Nat.add 36 (Nat.mul a g)) b) (Nat.ble b (Nat.add 60 (Nat.mul a g))) false)) false
noncomputable def qrw (A b : Nat) : Bool := qFI (Int.sub (Int.ofNat A) (Int.ofNat 24)) (fun iA => qFI (Int.mul (Int.ofNat 8) (Int.sub (Int.ofNat b) (Int.ofNat 48))) (fun iB => qfk (qsq A) (fun as => qfk (fun g => qany (qac b g) as) (fun cs => qal (fun c => qB (qany (qsq c) cs) (qFI (Int.mul (Int.ofNat 16) (Int.sub (Int.ofNat c) (Int.ofNat 24))) (fun iC => qone iA iB iC)) true) qL43) qI6 []) qI6 []))
