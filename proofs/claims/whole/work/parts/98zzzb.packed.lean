/-! ===== numbers one behind another in one number ===== -/
def ofD (b : Nat) : List Nat → Nat
  | [] => 0
  | x :: l => x + 2 ^ b * ofD b l
section OD1
variable {α : Type} {b : Nat}
theorem ofD_app (l1 l2 : List Nat) : ofD b (l1 ++ l2) = ofD b l1 + 2 ^ (b * l1.length) * ofD b l2 := by
  induction l1 with
  | nil => show ofD b l2 = 0 + 2 ^ (b * 0) * ofD b l2; rw [Nat.mul_zero, Nat.pow_zero, Nat.one_mul, Nat.zero_add]
  | cons x l ih =>
    show x + 2 ^ b * ofD b (l ++ l2) = x + 2 ^ b * ofD b l + 2 ^ (b * (l.length + 1)) * ofD b l2
    rw [ih, Nat.mul_add, Nat.mul_succ, Nat.add_comm (b * l.length) b, Nat.pow_add, Nat.mul_assoc, Nat.add_assoc]
theorem ofD_add (f g : α → Nat) (l : List α) : ofD b (l.map f) + ofD b (l.map g) = ofD b (l.map (fun w => f w + g w)) := by
  induction l with
  | nil => rfl
  | cons x l ih =>
    show (f x + 2 ^ b * ofD b (l.map f)) + (g x + 2 ^ b * ofD b (l.map g)) = f x + g x + 2 ^ b * ofD b (l.map (fun w => f w + g w))
    rw [← ih, Nat.mul_add]; omega
theorem ofD_mul (c : Nat) (f : α → Nat) (l : List α) : c * ofD b (l.map f) = ofD b (l.map (fun w => c * f w)) := by
  induction l with
  | nil => rfl
  | cons x l ih =>
    show c * (f x + 2 ^ b * ofD b (l.map f)) = c * f x + 2 ^ b * ofD b (l.map (fun w => c * f w))
    rw [← ih, Nat.mul_add, ← Nat.mul_assoc, ← Nat.mul_assoc, Nat.mul_comm c (2 ^ b)]
theorem ofD_sub (f g : α → Nat) (l : List α) (h : ∀ w, w ∈ l → g w ≤ f w) : ofD b (l.map f) - ofD b (l.map g) = ofD b (l.map (fun w => f w - g w)) := by
  have e := ofD_add (b := b) (fun w => f w - g w) g l
  have e2 : l.map (fun w => f w - g w + g w) = l.map f := List.map_congr_left (fun w hw => by have := h w hw; omega)
  rw [e2] at e
  omega
theorem ofD_congr {f g : α → Nat} {l : List α} (h : ∀ w, w ∈ l → f w = g w) : ofD b (l.map f) = ofD b (l.map g) := by
  rw [List.map_congr_left h]
/-- ones -/
def rep (b : Nat) (n : Nat) : Nat := (2 ^ (b * n) - 1) / (2 ^ b - 1)
theorem ofD_const (hb : 0 < b) (c : Nat) (l : List α) : ofD b (l.map (fun _ => c)) = c * rep b l.length := by
  have h1 : ∀ l : List α, ofD b (l.map (fun _ => 1)) * (2 ^ b - 1) = 2 ^ (b * l.length) - 1 := by
    intro l
    induction l with
    | nil => show 0 * _ = 2 ^ (b * 0) - 1; rw [Nat.zero_mul, Nat.mul_zero, Nat.pow_zero]
    | cons x l ih =>
      show (1 + 2 ^ b * ofD b (l.map (fun _ => 1))) * (2 ^ b - 1) = 2 ^ (b * (l.length + 1)) - 1
      rw [Nat.add_mul, Nat.one_mul, Nat.mul_assoc, ih, Nat.mul_succ, Nat.pow_add, Nat.mul_sub, Nat.mul_one, Nat.mul_comm (2 ^ (b * l.length))]
      have p1 : 1 ≤ 2 ^ b := Nat.one_le_two_pow
      have p2 : 1 ≤ 2 ^ (b * l.length) := Nat.one_le_two_pow
      have p3 : 2 ^ b * 1 ≤ 2 ^ b * 2 ^ (b * l.length) := Nat.mul_le_mul_left _ p2
      omega
  have p1 : 2 ^ 1 ≤ 2 ^ b := Nat.pow_le_pow_right (by decide) hb
  rw [Nat.pow_one] at p1
  have h2 : ofD b (l.map (fun _ => 1)) = rep b l.length := by
    unfold rep
    rw [← h1 l, Nat.mul_div_cancel _ (by omega)]
  rw [← h2, ofD_mul]
  exact ofD_congr (fun w _ => by omega)
theorem ofD_lt (f : α → Nat) (l : List α) (h : ∀ w, w ∈ l → f w < 2 ^ b) : ofD b (l.map f) < 2 ^ (b * l.length) := by
  induction l with
  | nil => show 0 < 2 ^ (b * 0); rw [Nat.mul_zero]; decide
  | cons x l ih =>
    show f x + 2 ^ b * ofD b (l.map f) < 2 ^ (b * (l.length + 1))
    have h1 := h x List.mem_cons_self
    have h2 := ih (fun w hw => h w (List.mem_cons_of_mem _ hw))
    rw [Nat.mul_succ, Nat.pow_add, Nat.mul_comm (2 ^ (b * l.length))]
    have h3 : 2 ^ b * (ofD b (l.map f) + 1) ≤ 2 ^ b * 2 ^ (b * l.length) := Nat.mul_le_mul_left _ h2
    rw [Nat.mul_add] at h3
    omega
theorem bit_split {x y k : Nat} (hx : x < 2 ^ b) : (x + 2 ^ b * y).testBit k = if k < b then x.testBit k else y.testBit (k - b) := by
  rw [Nat.add_comm, Nat.testBit_two_pow_mul_add _ hx]
theorem ofD_and (f g : α → Nat) (l : List α) (h : ∀ w, w ∈ l → f w < 2 ^ b) (h' : ∀ w, w ∈ l → g w < 2 ^ b) : ofD b (l.map f) &&& ofD b (l.map g) = ofD b (l.map (fun w => f w &&& g w)) := by
  induction l with
  | nil => exact Nat.and_zero _
  | cons x l ih =>
    have i := ih (fun w hw => h w (List.mem_cons_of_mem _ hw)) (fun w hw => h' w (List.mem_cons_of_mem _ hw))
    have a1 := h x List.mem_cons_self
    have a2 := h' x List.mem_cons_self
    show (f x + 2 ^ b * ofD b (l.map f)) &&& (g x + 2 ^ b * ofD b (l.map g)) = (f x &&& g x) + 2 ^ b * ofD b (l.map (fun w => f w &&& g w))
    rw [← i]
    apply Nat.eq_of_testBit_eq
    intro k
    rw [Nat.testBit_and, bit_split a1, bit_split a2, bit_split (Nat.lt_of_le_of_lt Nat.and_le_left a1), Nat.testBit_and, Nat.testBit_and]
    by_cases e : k < b
    · rw [if_pos e, if_pos e, if_pos e]
    · rw [if_neg e, if_neg e, if_neg e]
theorem ofD_xor (f g : α → Nat) (l : List α) (h : ∀ w, w ∈ l → f w < 2 ^ b) (h' : ∀ w, w ∈ l → g w < 2 ^ b) : ofD b (l.map f) ^^^ ofD b (l.map g) = ofD b (l.map (fun w => f w ^^^ g w)) := by
  induction l with
  | nil => exact Nat.xor_zero _
  | cons x l ih =>
    have i := ih (fun w hw => h w (List.mem_cons_of_mem _ hw)) (fun w hw => h' w (List.mem_cons_of_mem _ hw))
    have a1 := h x List.mem_cons_self
    have a2 := h' x List.mem_cons_self
    show (f x + 2 ^ b * ofD b (l.map f)) ^^^ (g x + 2 ^ b * ofD b (l.map g)) = (f x ^^^ g x) + 2 ^ b * ofD b (l.map (fun w => f w ^^^ g w))
    rw [← i]
    apply Nat.eq_of_testBit_eq
    intro k
    rw [Nat.testBit_xor, bit_split a1, bit_split a2, bit_split (Nat.xor_lt_two_pow a1 a2), Nat.testBit_xor, Nat.testBit_xor]
    by_cases e : k < b
    · rw [if_pos e, if_pos e, if_pos e]
    · rw [if_neg e, if_neg e, if_neg e]
/-- the upper parts of all, by one shift and one mask -/
theorem ofD_shr (j : Nat) (hj : j ≤ b) (f : α → Nat) (l : List α) (h : ∀ w, w ∈ l → f w < 2 ^ b) : (ofD b (l.map f) >>> j) &&& ofD b (l.map (fun _ => 2 ^ (b - j) - 1)) = ofD b (l.map (fun w => f w >>> j)) := by
  have m0 : 2 ^ (b - j) - 1 < 2 ^ b := by
    have : 2 ^ (b - j) ≤ 2 ^ b := Nat.pow_le_pow_right (by decide) (by omega)
    have := Nat.two_pow_pos (b - j)
    omega
  induction l with
  | nil => exact Nat.and_zero _
  | cons x l ih =>
    have i := ih (fun w hw => h w (List.mem_cons_of_mem _ hw))
    have a1 := h x List.mem_cons_self
    show ((f x + 2 ^ b * ofD b (l.map f)) >>> j) &&& ((2 ^ (b - j) - 1) + 2 ^ b * ofD b (l.map (fun _ => 2 ^ (b - j) - 1))) = (f x >>> j) + 2 ^ b * ofD b (l.map (fun w => f w >>> j))
    rw [← i]
    apply Nat.eq_of_testBit_eq
    intro k
    rw [Nat.testBit_and, Nat.testBit_shiftRight, bit_split a1, bit_split m0, bit_split (Nat.lt_of_le_of_lt (Nat.shiftRight_le _ _) a1), Nat.testBit_and, Nat.testBit_shiftRight, Nat.testBit_shiftRight, Nat.testBit_two_pow_sub_one]
    by_cases e : k < b
    · rw [if_pos e, if_pos e]
      by_cases e2 : k < b - j
      · rw [if_pos (show j + k < b by omega), decide_eq_true e2, Bool.and_true]
      · rw [decide_eq_false e2, Bool.and_false]
        have : f x < 2 ^ (j + k) := Nat.lt_of_lt_of_le a1 (Nat.pow_le_pow_right (by decide) (by omega))
        exact (Nat.testBit_lt_two_pow this).symm
    · rw [if_neg e, if_neg e, if_neg (show ¬ j + k < b by omega), show j + k - b = j + (k - b) by omega]
end OD1
