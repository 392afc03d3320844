/-! ===== all words of a board, in packed numbers ===== -/
/-- a number handed on as it is -/
noncomputable def nst {α : Type} (e : Nat) (F : Nat → α) : α := Nat.rec (motive := fun _ => α) (F 0) (fun y _ => F y) (Nat.add e 1)
noncomputable def nsl {α : Type} (l : List Nat) (k : List Nat → α) : α := List.rec (motive := fun _ => (List Nat → α) → α) (fun k => k []) (fun x _ ih k => nst x (fun v => ih (fun l' => k (v :: l')))) l k
/-- without piece y; piece d; where piece d comes to lie -/
noncomputable def pcut (t y X : Nat) : Nat := Nat.add (Nat.mod X (Nat.pow 2 (Nat.mul t y))) (Nat.shiftLeft (Nat.shiftRight X (Nat.mul t (Nat.add y 1))) (Nat.mul t y))
noncomputable def ppc (t d X : Nat) : Nat := Nat.mod (Nat.shiftRight X (Nat.mul t d)) (Nat.pow 2 t)
noncomputable def ppos (t y d X : Nat) : Nat := Nat.shiftLeft (ppc t d X) (Nat.mul t (bif Nat.blt d y then d else Nat.sub d 1))
noncomputable def peq (R X c : Nat) : Nat := Nat.sub R (Nat.land (Nat.shiftRight (Nat.add (Nat.xor X (Nat.mul c R)) (Nat.mul 127 R)) 7) R)
noncomputable def pfo (R X : Nat) : Nat := Nat.add (Nat.land X (Nat.mul 2147483647 R)) (Nat.mul 5167 (Nat.land (Nat.shiftRight X 31) (Nat.mul 137438953471 R)))
/-- sums of pieces over y -/
noncomputable def pgat (T : Nat) (f : Nat → Nat) (p : Nat) : Nat := Nat.rec (motive := fun _ => Nat) 0 (fun y ih => Nat.add ih (Nat.shiftLeft (f y) (Nat.mul T y))) p
noncomputable def phl (p t R HR y : Nat) : Nat := Nat.add R (ppos t y (Nat.mod (Nat.sub (Nat.add y p) 1) p) HR)
noncomputable def phr (p t R HL BB y : Nat) : Nat := Nat.add R (Nat.add (ppos t y (Nat.mod (Nat.add y 1) p) HL) (ppos t y (Nat.mod (Nat.add y 2) p) BB))
noncomputable def pac0 (p t BB AC y : Nat) : Nat := Nat.sub (pcut t y AC) (ppos t y (Nat.mod (Nat.add y 1) p) (Nat.land AC BB))
noncomputable def pac (p t R HL BB AC c y : Nat) : Nat := bif Nat.beq c 0 then pac0 p t BB AC y else Nat.sub (pac0 p t BB AC y) (Nat.land (pac0 p t BB AC y) (peq R (phr p t R HL BB y) c))
noncomputable def pbb (p t R HR c y : Nat) : Nat := bif Nat.beq c 0 then 0 else peq R (phl p t R HR y) c
noncomputable def pid (p t R ID y : Nat) : Nat := Nat.add (Nat.mul (Nat.add y 1) R) (Nat.mul (Nat.add p 1) (pcut t y ID))
/-- weights: for side y, of all sides -/
noncomputable def psm (t y : Nat) (ws Xs : List Nat) : Nat := List.rec (motive := fun _ => List Nat → Nat) (fun _ => 0) (fun w _ ih Xs => List.rec (motive := fun _ => Nat) 0 (fun X l _ => Nat.add (Nat.mul w X) (ih l)) Xs) ws Xs
noncomputable def pnw (t y R X : Nat) (ws Xs : List Nat) : Nat := pfo R (pfo R (Nat.add (pcut t y (psm t y ws Xs)) (Nat.sub (Nat.mul 6442435444 R) (pcut t y X))))
noncomputable def pxj (p t T R : Nat) (W : List (List Nat)) (Xs : List Nat) (j X : Nat) : Nat := pgat T (fun y => bif Nat.beq y j then pnw t y R X (W.getD y []) Xs else pcut t y X) p
noncomputable def pxl (p t T R : Nat) (W : List (List Nat)) (Xs0 Xs : List Nat) : Nat → List Nat := List.rec (motive := fun _ => Nat → List Nat) (fun _ => []) (fun X _ ih j => pxj p t T R W Xs0 j X :: ih (Nat.add j 1)) Xs
/-- values -/
noncomputable def phs (mu Xs : List Nat) : Nat := psm 0 0 mu Xs
noncomputable def pvl (la n AC ID : Nat) (mu Xs : List Nat) : Nat :=
  nst (rep 68 n) fun R => nst (pfo R (pfo R (pfo R (Nat.add (Nat.mul la R) (phs mu Xs))))) fun h =>
  nst (Nat.mul 4294967295 AC) fun am => Nat.add (Nat.land (Nat.sub h (Nat.mul 2147478481 (Nat.land (Nat.shiftRight (Nat.add h (Nat.mul 2147488815 R)) 32) R))) am) (Nat.land (Nat.add (Nat.mul 2147483648 R) ID) (Nat.sub (Nat.mul 4294967295 R) am))
noncomputable def pall (p : Nat) (cl : List Nat) (W : List (List Nat)) (la : Nat) (mu : List Nat) (Y K : Nat) : Nat → Nat → Nat → Nat → Nat → Nat → List Nat → Nat := Nat.rec (motive := fun _ => Nat → Nat → Nat → Nat → Nat → Nat → List Nat → Nat) (fun _ _ _ _ _ _ _ => Y) (fun _ ih s HL HR BB AC ID Xs =>
  nst (Nat.mul 68 s) fun t => nst (Nat.mul t (Nat.sub p 1)) fun T => nst (rep 68 (Nat.mul s (Nat.sub p 1))) fun R =>
  nst (pgat T (phl p t R HR) p) fun HL' => nst (pgat T (phr p t R HL BB) p) fun HR' => nst (pgat T (fun y => pbb p t R HR (cl.getD (Nat.mod (Nat.sub (Nat.add y p) 1) p) 0) y) p) fun BB' => nst (pgat T (fun y => pac p t R HL BB AC (cl.getD y 0) y) p) fun AC' => nst (pgat T (pid p t R ID) p) fun ID' =>
  nsl (pxl p t T R W Xs Xs 0) fun Xs' =>
  Nat.add (pvl la (Nat.mul p s) AC ID mu Xs) (Nat.shiftLeft (ih (Nat.mul s (Nat.sub p 1)) HL' HR' BB' AC' ID' Xs') (Nat.mul t p))) K
noncomputable def ppad (n v : Nat) : Nat := Nat.add (Nat.mul v (rep 68 n)) (Nat.div (Nat.sub (Nat.mul n (Nat.pow 2 (Nat.mul 68 n))) (Nat.mul 295147905179352825856 (rep 68 n))) 295147905179352825855)
noncomputable def pwc (p : Nat) (ct : List Nat) (y j : Nat) : Nat := if j = y then 0 else if (y + 1) % p = j then ct.getD y 2 else if (j + 1) % p = y then ct.getD j 2 else 2
noncomputable def pmu (p : Nat) (ct lam : List Nat) (i : Nat) : Nat → Nat
  | 0 => 0
  | j + 1 => (pmu p ct lam i j + lam.getD j 0 * (if i = j then 2147478479 else pwc p ct i j)) % 2147478481
noncomputable def plam (lam : List Nat) : Nat → Nat
  | 0 => 0
  | j + 1 => (plam lam j + lam.getD j 0) % 2147478481
noncomputable def bt_in (N s : Nat) : Nat → Nat → List (Nat × Nat)
  | 0, _ => []
  | r + 1, k => (k, if s = N then 0 else (sw_one s (N / (2 * s)) <<< (34 * s))) :: bt_in N s r (k / 2)
noncomputable def bt_all (N : Nat) : Nat → Nat → List (Nat × Nat)
  | 0, _ => []
  | r + 1, a => bt_in N (2 ^ (a + 1)) (a + 1) (2 ^ a) ++ bt_all N r (a + 1)
noncomputable def pcnt (p : Nat) : Nat → Nat → Nat
  | 0, _ => 0
  | k + 1, s => p * s + pcnt p k (s * (p - 1))
/-- -1 at the side itself: the number of steps there is taken away -/
noncomputable def pW (p : Nat) (ct : List Nat) : List (List Nat) := (List.range p).map (fun y => (List.range p).map (fun j => if j = y then 0 else pwc p ct y j))
noncomputable def pX0 (p : Nat) : Nat := pgat 68 (fun _ => 1) p
noncomputable def pX (p : Nat) (cl ct lam : List Nat) (K m : Nat) : Nat := (plam lam p) + (pall p cl (pW p ct) (plam lam p) ((List.range p).map (fun i => pmu p ct lam i p)) (ppad (2 ^ m - (pcnt p K 1 + 1)) 3221225472) K 1 (pX0 p) (pX0 p) 0 (pX0 p) (pgat 68 (fun y => y + 1) p) ((List.range p).map (fun j => 2147478482 * 2 ^ (68 * j)))) <<< 68
noncomputable def pchk (p : Nat) (cl ct lam : List Nat) (K m : Nat) : Bool := nst (pX p cl ct lam K m) (fun X => sw_go (2 ^ m) (bt_all (2 ^ m) m 0) (Nat.add (Nat.mod X (2 ^ (68 * 2 ^ (m - 1)))) (Nat.shiftLeft (Nat.shiftRight X (68 * 2 ^ (m - 1))) 34)))
