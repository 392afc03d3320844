/-! ===== a pure picture of the machine: places instead of addresses, three tables of numbers instead of cells ===== -/
/-- what the places hold: references (by place), ints, longs; of an object by field, of an array by index -/
abbrev ij_S : Type := (Nat → Nat → Nat) × (Nat → Nat → Int32) × (Nat → Nat → Int64)
/-- the locals, by their numbers -/
abbrev ij_L : Type := List (Option Value)
abbrev ij_C : Type := Nat × ij_L × List Value × ij_S
/-- what stands at each place: an object (the number of its kind), or an array (0 int, 1 long, 2 boolean) of a length -/
abbrev ij_Ks : Type := List (Nat ⊕ (Nat × Nat))
def ij_all : List Prop → Prop
  | [] => True
  | [φ] => φ
  | φ :: ψ :: r => φ ∧ ij_all (ψ :: r)
theorem ij_all_cons {φ : Prop} {r : List Prop} (h : ij_all (φ :: r)) : φ ∧ ij_all r := by
  cases r with
  | nil => exact ⟨h, trivial⟩
  | cons ψ r => exact h
theorem ij_all_app {a b : List Prop} (h : ij_all (a ++ b)) : ij_all a ∧ ij_all b := by
  induction a with
  | nil => exact ⟨trivial, h⟩
  | cons φ r ih =>
    obtain ⟨h1, h2⟩ := ij_all_cons h
    obtain ⟨h3, h4⟩ := ih h2
    refine ⟨?_, h4⟩
    cases r with
    | nil => exact h1
    | cons ψ r => exact ⟨h1, h3⟩
def ij_u {α : Type} (f : Nat → Nat → α) (p k : Nat) (v : α) : Nat → Nat → α := fun a b => if a = p then (if b = k then v else f a b) else f a b
def ij_get : ij_L → Nat → Option Value
  | [], _ => none
  | x :: _, 0 => x
  | _ :: r, n + 1 => ij_get r n
/-- a value of one slot is stored: a long that ended here is gone -/
def ij_st1 : ij_L → Nat → Value → ij_L
  | [], _, _ => []
  | _ :: r, 0, v => some v :: r
  | x :: r, 1, v => (match x with
    | some (.long _) => none
    | some (.double _) => none
    | y => y) :: ij_st1 r 0 v
  | x :: r, n + 2, v => x :: ij_st1 r (n + 1) v
def ij_off : ij_L → ij_L
  | [] => []
  | _ :: r => none :: r
/-- a long is stored: its second half holds nothing -/
def ij_st2 : ij_L → Nat → Value → ij_L
  | [], _, _ => []
  | _ :: r, 0, v => some v :: ij_off r
  | x :: r, 1, v => (match x with
    | some (.long _) => none
    | some (.double _) => none
    | y => y) :: ij_st2 r 0 v
  | x :: r, n + 2, v => x :: ij_st2 r (n + 1) v
/-- the program: instructions by method and place; fields, longs, ints, methods by the pool of a kind; field types (0 int, 1 long, 2 boolean, 3 reference), whether a field may be written; a method's kind, locals -/
abbrev ij_P : Type := (Nat → Nat → Option (Instr × Nat)) × (Nat → Nat → Option (Nat × Nat)) × (Nat → Nat → Option Int64) × (Nat → Nat → Option Int32) × (Nat → Nat → Nat) × (Nat → Nat → Bool) × (Nat → Nat) × (Nat → Nat)
abbrev ij_dc (P : ij_P) := P.1
abbrev ij_pf (P : ij_P) := P.2.1
abbrev ij_pl (P : ij_P) := P.2.2.1
abbrev ij_pi (P : ij_P) := P.2.2.2.1
abbrev ij_ft (P : ij_P) := P.2.2.2.2.1
abbrev ij_fw (P : ij_P) := P.2.2.2.2.2.1
abbrev ij_mo (P : ij_P) := P.2.2.2.2.2.2.1
abbrev ij_ml (P : ij_P) := P.2.2.2.2.2.2.2
section Shapes
variable {R : Type}
def ij_xi (st : List Value) (f : Int32 → List Value → Option R) : Option R := match st with
  | .int x :: r => f x r
  | _ => none
def ij_xl (st : List Value) (f : Int64 → List Value → Option R) : Option R := match st with
  | .long x :: r => f x r
  | _ => none
def ij_xa (st : List Value) (f : Nat → List Value → Option R) : Option R := match st with
  | .ref a :: r => f a r
  | _ => none
def ij_xv (st : List Value) (f : Value → List Value → Option R) : Option R := match st with
  | v :: r => f v r
  | _ => none
theorem ij_xi_inv {st : List Value} {f : Int32 → List Value → Option R} {z : R} (h : ij_xi st f = some z) : ∃ x r, st = .int x :: r ∧ f x r = some z := by
  unfold ij_xi at h
  split at h
  · exact ⟨_, _, rfl, h⟩
  · cases h
theorem ij_xl_inv {st : List Value} {f : Int64 → List Value → Option R} {z : R} (h : ij_xl st f = some z) : ∃ x r, st = .long x :: r ∧ f x r = some z := by
  unfold ij_xl at h
  split at h
  · exact ⟨_, _, rfl, h⟩
  · cases h
theorem ij_xa_inv {st : List Value} {f : Nat → List Value → Option R} {z : R} (h : ij_xa st f = some z) : ∃ x r, st = .ref x :: r ∧ f x r = some z := by
  unfold ij_xa at h
  split at h
  · exact ⟨_, _, rfl, h⟩
  · cases h
theorem ij_xv_inv {st : List Value} {f : Value → List Value → Option R} {z : R} (h : ij_xv st f = some z) : ∃ x r, st = x :: r ∧ f x r = some z := by
  unfold ij_xv at h
  split at h
  · exact ⟨_, _, rfl, h⟩
  · cases h
end Shapes
/-- two numbers: y above x -/
abbrev ij_xii {R : Type} (st : List Value) (f : Int32 → Int32 → List Value → Option R) : Option R := ij_xi st (fun y r => ij_xi r (fun x r => f x y r))
abbrev ij_xll {R : Type} (st : List Value) (f : Int64 → Int64 → List Value → Option R) : Option R := ij_xl st (fun y r => ij_xl r (fun x r => f x y r))
abbrev ij_xli {R : Type} (st : List Value) (f : Int64 → Int32 → List Value → Option R) : Option R := ij_xi st (fun y r => ij_xl r (fun x r => f x y r))
/-- the target of a jump -/
def ij_tg (pc : Nat) (off : Int) : Option Nat := match (pc : Int) + off with
  | .ofNat n => some n
  | .negSucc _ => none
def ij_cmp (q : Jvm.ClassFile.Cond) (x y : Int32) : Prop := match q with
  | .eq => x = y
  | .ne => ¬ x = y
  | .lt => x < y
  | .ge => y ≤ x
  | .gt => y < x
  | .le => x ≤ y
def ij_ncmp (q : Jvm.ClassFile.Cond) (x y : Int32) : Prop := match q with
  | .eq => ¬ x = y
  | .ne => x = y
  | .lt => ¬ x < y
  | .ge => ¬ y ≤ x
  | .gt => ¬ y < x
  | .le => ¬ x ≤ y
def ij_br (b : Nat) (q : Jvm.ClassFile.Cond) (x y : Int32) : Prop := match b with
  | 0 => ij_ncmp q x y
  | _ + 1 => ij_cmp q x y
def ij_bt (b t f : Nat) : Nat := match b with
  | 0 => f
  | _ + 1 => t
def ij_fv (P : ij_P) (σ : ij_S) (ci a k : Nat) : Value := match ij_ft P ci k with
  | 1 => .long (σ.2.2 a k)
  | 3 => .ref (σ.1 a k)
  | 4 => .null
  | _ => .int (σ.2.1 a k)
def ij_pw (σ : ij_S) (a k : Nat) : Nat → Value → Option (List Prop × ij_S)
  | 0, .int x => some ([], (σ.1, ij_u σ.2.1 a k x, σ.2.2))
  | 1, .long x => some ([], (σ.1, σ.2.1, ij_u σ.2.2 a k x))
  | 2, .int x => some ([x = 0 ∨ x = 1], (σ.1, ij_u σ.2.1 a k x, σ.2.2))
  | 3, .ref x => some ([], (ij_u σ.1 a k x, σ.2.1, σ.2.2))
  | _, _ => none
def ij_pv (P : ij_P) (σ : ij_S) (ci a k : Nat) (v : Value) : Option (List Prop × ij_S) := ij_pw σ a k (ij_ft P ci k) v
def ij_obj (K : ij_Ks) (a ci : Nat) : Bool := match K[a]? with
  | some (.inl c) => Nat.beq c ci
  | _ => false
/-- the length of an array of a kind -/
def ij_arr (K : ij_Ks) (a t : Nat) : Option Nat := match K[a]? with
  | some (.inr (u, n)) => if Nat.beq u t = true then some n else none
  | _ => none
def ij_len (K : ij_Ks) (a : Nat) : Option (Nat × Nat) := match K[a]? with
  | some (.inr q) => some q
  | _ => none
def ij_ld1 (L : ij_L) (i : Nat) (pc : Nat) (st : List Value) (σ : ij_S) : Option (List Prop × ij_C) := match ij_get L i with
  | some (.int x) => some ([], pc, L, .int x :: st, σ)
  | _ => none
def ij_ld2 (L : ij_L) (i : Nat) (pc : Nat) (st : List Value) (σ : ij_S) : Option (List Prop × ij_C) := match ij_get L i with
  | some (.long x) => some ([], pc, L, .long x :: st, σ)
  | _ => none
def ij_lda (L : ij_L) (i : Nat) (pc : Nat) (st : List Value) (σ : ij_S) : Option (List Prop × ij_C) := match ij_get L i with
  | some (.ref x) => some ([], pc, L, .ref x :: st, σ)
  | _ => none
def ij_inc (L : ij_L) (i : Nat) (n : Int) (ml : Nat) (pc : Nat) (st : List Value) (σ : ij_S) : Option (List Prop × ij_C) := match ij_get L i with
  | some (.int x) => if i < ml then some ([], pc, ij_st1 L i (.int (x + Int32.ofInt n)), st, σ) else none
  | _ => none
def ij_sw (pc : Nat) (L : ij_L) (r : List Value) (σ : ij_S) (dflt lo hi : Int) (offs : Array Int) (x : Int32) : Nat → Option (List Prop × ij_C)
  | 0 => (ij_tg pc dflt).bind (fun t => some ([x.toInt < lo ∨ hi < x.toInt], t, L, r, σ))
  | k + 1 => (offs[k]?).bind (fun off => (ij_tg pc off).bind (fun t => some ([x.toInt = lo + (k : Int) ∧ x.toInt ≤ hi], t, L, r, σ)))
/-- one instruction that calls nothing: what it needs, and where it leads; b: whether a branch is taken (0: not), which case of a switch (0: none of them) -/
def ij_ins (P : ij_P) (K : ij_Ks) (mi : Nat) (b : Nat) (pc : Nat) (L : ij_L) (st : List Value) (σ : ij_S) : Instr → Option (List Prop × ij_C)
  | .iconst n => some ([], pc + 1, L, .int (Int32.ofInt n) :: st, σ)
  | .bipush n => some ([], pc + 2, L, .int (Int8.ofInt n).toInt32 :: st, σ)
  | .sipush n => some ([], pc + 3, L, .int (Int16.ofInt n).toInt32 :: st, σ)
  | .lconst n => some ([], pc + 1, L, .long (Int64.ofNat (n : Nat)) :: st, σ)
  | .ldc i => (ij_pi P (ij_mo P mi) i).bind (fun v => some ([], pc + 2, L, .int v :: st, σ))
  | .ldc2_w i => (ij_pl P (ij_mo P mi) i).bind (fun v => some ([], pc + 3, L, .long v :: st, σ))
  | .iload_n i => ij_ld1 L i (pc + 1) st σ
  | .iload i => ij_ld1 L i (pc + 2) st σ
  | .lload_n i => ij_ld2 L i (pc + 1) st σ
  | .lload i => ij_ld2 L i (pc + 2) st σ
  | .aload_n i => ij_lda L i (pc + 1) st σ
  | .aload i => ij_lda L i (pc + 2) st σ
  | .istore_n i => ij_xi st (fun x r => if (i : Nat) < ij_ml P mi then some ([], pc + 1, ij_st1 L i (.int x), r, σ) else none)
  | .istore i => ij_xi st (fun x r => if i < ij_ml P mi then some ([], pc + 2, ij_st1 L i (.int x), r, σ) else none)
  | .lstore_n i => ij_xl st (fun x r => if (i : Nat) + 1 < ij_ml P mi then some ([], pc + 1, ij_st2 L i (.long x), r, σ) else none)
  | .lstore i => ij_xl st (fun x r => if i + 1 < ij_ml P mi then some ([], pc + 2, ij_st2 L i (.long x), r, σ) else none)
  | .astore_n i => ij_xa st (fun x r => if (i : Nat) < ij_ml P mi then some ([], pc + 1, ij_st1 L i (.ref x), r, σ) else none)
  | .astore i => ij_xa st (fun x r => if i < ij_ml P mi then some ([], pc + 2, ij_st1 L i (.ref x), r, σ) else none)
  | .iinc i n => ij_inc L i n (ij_ml P mi) (pc + 3) st σ
  | .iadd => ij_xii st (fun x y r => some ([], pc + 1, L, .int (x + y) :: r, σ))
  | .isub => ij_xii st (fun x y r => some ([], pc + 1, L, .int (x - y) :: r, σ))
  | .imul => ij_xii st (fun x y r => some ([], pc + 1, L, .int (x * y) :: r, σ))
  | .iand => ij_xii st (fun x y r => some ([], pc + 1, L, .int (x &&& y) :: r, σ))
  | .ior => ij_xii st (fun x y r => some ([], pc + 1, L, .int (x ||| y) :: r, σ))
  | .ixor => ij_xii st (fun x y r => some ([], pc + 1, L, .int (x ^^^ y) :: r, σ))
  | .idiv => ij_xii st (fun x y r => some ([¬ y = 0], pc + 1, L, .int (x / y) :: r, σ))
  | .irem => ij_xii st (fun x y r => some ([¬ y = 0], pc + 1, L, .int (x - x / y * y) :: r, σ))
  | .ishl => ij_xii st (fun x y r => some ([], pc + 1, L, .int (x <<< (y &&& 31)) :: r, σ))
  | .ishr => ij_xii st (fun x y r => some ([], pc + 1, L, .int (x >>> (y &&& 31)) :: r, σ))
  | .iushr => ij_xii st (fun x y r => some ([], pc + 1, L, .int (x.toUInt32 >>> (y.toUInt32 &&& Int32.toUInt32 31)).toInt32 :: r, σ))
  | .ineg => ij_xi st (fun x r => some ([], pc + 1, L, .int (-x) :: r, σ))
  | .ladd => ij_xll st (fun x y r => some ([], pc + 1, L, .long (x + y) :: r, σ))
  | .lsub => ij_xll st (fun x y r => some ([], pc + 1, L, .long (x - y) :: r, σ))
  | .lmul => ij_xll st (fun x y r => some ([], pc + 1, L, .long (x * y) :: r, σ))
  | .land => ij_xll st (fun x y r => some ([], pc + 1, L, .long (x &&& y) :: r, σ))
  | .lor => ij_xll st (fun x y r => some ([], pc + 1, L, .long (x ||| y) :: r, σ))
  | .lxor => ij_xll st (fun x y r => some ([], pc + 1, L, .long (x ^^^ y) :: r, σ))
  | .ldiv => ij_xll st (fun x y r => some ([¬ y = 0], pc + 1, L, .long (x / y) :: r, σ))
  | .lrem => ij_xll st (fun x y r => some ([¬ y = 0], pc + 1, L, .long (x - x / y * y) :: r, σ))
  | .lshl => ij_xli st (fun x y r => some ([], pc + 1, L, .long (x <<< (y.toInt64 &&& 63)) :: r, σ))
  | .lshr => ij_xli st (fun x y r => some ([], pc + 1, L, .long (x >>> (y.toInt64 &&& 63)) :: r, σ))
  | .lushr => ij_xli st (fun x y r => some ([], pc + 1, L, .long (x.toUInt64 >>> (y.toInt64.toUInt64 &&& Int64.toUInt64 63)).toInt64 :: r, σ))
  | .lcmp => ij_xll st (fun x y r => some ([], pc + 1, L, .int (lg_cmp x y) :: r, σ))
  | .i2l => ij_xi st (fun x r => some ([], pc + 1, L, .long x.toInt64 :: r, σ))
  | .l2i => ij_xl st (fun x r => some ([], pc + 1, L, .int x.toInt32 :: r, σ))
  | .dup => ij_xv st (fun v r => if v.category = 1 then some ([], pc + 1, L, v :: v :: r, σ) else none)
  | .pop => ij_xv st (fun v r => if v.category = 1 then some ([], pc + 1, L, r, σ) else none)
  | .dup2 => ij_xv st (fun v r => ij_xv r (fun w r => if v.category = 1 ∧ w.category = 1 then some ([], pc + 1, L, v :: w :: v :: w :: r, σ) else none))
  | .goto off => (ij_tg pc off).bind (fun t => some ([], t, L, st, σ))
  | .ifCond q off => ij_xi st (fun x r => (ij_tg pc off).bind (fun t => some ([ij_br b q x 0], ij_bt b t (pc + 3), L, r, σ)))
  | .if_icmp q off => ij_xii st (fun x y r => (ij_tg pc off).bind (fun t => some ([ij_br b q x y], ij_bt b t (pc + 3), L, r, σ)))
  | .getfield i => ij_xa st (fun a r => (ij_pf P (ij_mo P mi) i).bind (fun q => if ij_obj K a q.1 = true then some ([], pc + 3, L, ij_fv P σ q.1 a q.2 :: r, σ) else none))
  | .putfield i => ij_xv st (fun v r => ij_xa r (fun a r => (ij_pf P (ij_mo P mi) i).bind (fun q => if (ij_obj K a q.1 && ij_fw P q.1 q.2) = true then (ij_pv P σ q.1 a q.2 v).bind (fun z => some (z.1, pc + 3, L, r, z.2)) else none)))
  | .iaload => ij_xi st (fun i r => ij_xa r (fun a r => (ij_arr K a 0).bind (fun n => some ([vp_in i n], pc + 1, L, .int (σ.2.1 a i.toNatClampNeg) :: r, σ))))
  | .laload => ij_xi st (fun i r => ij_xa r (fun a r => (ij_arr K a 1).bind (fun n => some ([vp_in i n], pc + 1, L, .long (σ.2.2 a i.toNatClampNeg) :: r, σ))))
  | .baload => ij_xi st (fun i r => ij_xa r (fun a r => (ij_arr K a 2).bind (fun n => some ([vp_in i n], pc + 1, L, .int (σ.2.1 a i.toNatClampNeg) :: r, σ))))
  | .iastore => ij_xi st (fun x r => ij_xi r (fun i r => ij_xa r (fun a r => (ij_arr K a 0).bind (fun n => some ([vp_in i n], pc + 1, L, r, (σ.1, ij_u σ.2.1 a i.toNatClampNeg x, σ.2.2))))))
  | .lastore => ij_xl st (fun x r => ij_xi r (fun i r => ij_xa r (fun a r => (ij_arr K a 1).bind (fun n => some ([vp_in i n], pc + 1, L, r, (σ.1, σ.2.1, ij_u σ.2.2 a i.toNatClampNeg x))))))
  | .bastore => ij_xi st (fun x r => ij_xi r (fun i r => ij_xa r (fun a r => (ij_arr K a 2).bind (fun n => some ([vp_in i n], pc + 1, L, r, (σ.1, ij_u σ.2.1 a i.toNatClampNeg (vp_nar .boolean x), σ.2.2))))))
  | .ldc_w i => (ij_pi P (ij_mo P mi) i).bind (fun v => some ([], pc + 3, L, .int v :: st, σ))
  | .tableswitch dflt lo hi offs => ij_xi st (fun x r => ij_sw pc L r σ dflt lo hi offs x b)
  | .arraylength => ij_xa st (fun a r => (ij_len K a).bind (fun n => some ([n.1 < 3], pc + 1, L, .int (Int32.ofNat n.2) :: r, σ)))
  | _ => none
/-- a path: a word for each instruction (whether a branch is taken), what it needs, where it leads -/
def ij_path (P : ij_P) (K : ij_Ks) (mi : Nat) : List Nat → ij_C → Option (List Prop × ij_C)
  | [], c => some ([], c)
  | b :: bs, c => (ij_dc P mi c.1).bind (fun x => (ij_ins P K mi b c.1 c.2.1 c.2.2.1 c.2.2.2 x.1).bind (fun z => (ij_path P K mi bs z.2).bind (fun y => some (z.1 ++ y.1, y.2))))
