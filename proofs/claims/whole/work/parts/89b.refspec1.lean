/-! ===== what the reference's small methods answer ===== -/
abbrev rk_call (d : Nat) : ij_R := ij_cr rk_P rk_M rk_K (fun _ _ _ _ _ => False) d
section RS1
variable (d : Nat) (I : Nat → Nat → Int32) (J : Nat → Nat → Int64)
theorem rs_thrown : rk_call (d + 1) 0 [.ref 0] (rk_R, I, J) (some (.int (I 0 0))) (rk_R, I, J) := ij_cr_of (Nat.le_of_ble_eq_true rfl) (rp_thrown_0_0 I J)
theorem rs_fault : rk_call (d + 1) 19 [.ref 0] (rk_R, I, J) (some (.int (I 0 8))) (rk_R, ij_u I 0 0 0, J) := ij_cr_of (Nat.le_of_ble_eq_true rfl) (rp_fault_0_0 I J)
/-- right(is, what): nothing was thrown so far -/
theorem rs_right (is what : Int32) (h : I 0 0 = 0) (hw : ¬ what = 0) : rk_call (d + 1) 1 [.ref 0, .int is, .int what] (rk_R, I, J) (some (.int (if is = 0 then 0 else 1))) (rk_R, if is = 0 then ij_u I 0 0 what else I, J) := by
  refine ij_cr_of (Nat.le_of_ble_eq_true rfl) ?_
  by_cases hi : is = 0
  · rw [if_pos hi, if_pos hi]
    exact rp_right_0_4 I J is what h hi hw
  · rw [if_neg hi, if_neg hi]
    exact rp_right_0_3 I J is what h hi h
/-- .. and something was -/
theorem rs_right_x (is what : Int32) (h : ¬ I 0 0 = 0) : rk_call (d + 1) 1 [.ref 0, .int is, .int what] (rk_R, I, J) (some (.int 0)) (rk_R, I, J) := ij_cr_of (Nat.le_of_ble_eq_true rfl) (rp_right_0_0 I J is what h h)
def rs_in (t n : Int32) : Prop := ¬ t < 0 ∧ ¬ n ≤ t
theorem rs_isTile_y (t : Int32) (h : I 0 0 = 0) (ht : rs_in t (I 0 21)) : rk_call (d + 2) 30 [.ref 0, .int t] (rk_R, I, J) (some (.int 1)) (rk_R, I, J) :=
  ij_cr_of (Nat.le_of_ble_eq_true rfl) (rp_isTile_0_2 I J t ht.1 ht.2 1 (rs_right d I J 1 1 h (by decide)) (rp_isTile_22_0 I J 1 (Or.inr rfl)))
theorem rs_isTile_n (t : Int32) (h : I 0 0 = 0) (ht : ¬ rs_in t (I 0 21)) : rk_call (d + 2) 30 [.ref 0, .int t] (rk_R, I, J) (some (.int 0)) (rk_R, ij_u I 0 0 1, J) := by
  refine ij_cr_of (Nat.le_of_ble_eq_true rfl) ?_
  by_cases h0 : t < 0
  · exact rp_isTile_0_0 I J t h0 0 (rs_right d I J 0 1 h (by decide)) (rp_isTile_22_0 _ J 0 (Or.inl rfl))
  · have h1 : I 0 21 ≤ t := Decidable.byContradiction (fun q => ht ⟨h0, q⟩)
    exact rp_isTile_0_1 I J t h0 h1 0 (rs_right d I J 0 1 h (by decide)) (rp_isTile_22_0 _ J 0 (Or.inl rfl))
theorem rs_isSide_y (t : Int32) (h : I 0 0 = 0) (ht : rs_in t (I 0 1)) : rk_call (d + 2) 31 [.ref 0, .int t] (rk_R, I, J) (some (.int 1)) (rk_R, I, J) :=
  ij_cr_of (Nat.le_of_ble_eq_true rfl) (rp_isSide_0_2 I J t ht.1 ht.2 1 (rs_right d I J 1 1 h (by decide)) (rp_isSide_22_0 I J 1 (Or.inr rfl)))
theorem rs_isSide_n (t : Int32) (h : I 0 0 = 0) (ht : ¬ rs_in t (I 0 1)) : rk_call (d + 2) 31 [.ref 0, .int t] (rk_R, I, J) (some (.int 0)) (rk_R, ij_u I 0 0 1, J) := by
  refine ij_cr_of (Nat.le_of_ble_eq_true rfl) ?_
  by_cases h0 : t < 0
  · exact rp_isSide_0_0 I J t h0 0 (rs_right d I J 0 1 h (by decide)) (rp_isSide_22_0 _ J 0 (Or.inl rfl))
  · have h1 : I 0 1 ≤ t := Decidable.byContradiction (fun q => ht ⟨h0, q⟩)
    exact rp_isSide_0_1 I J t h0 h1 0 (rs_right d I J 0 1 h (by decide)) (rp_isSide_22_0 _ J 0 (Or.inl rfl))
/-- corner(c): the corners are eight places long -/
theorem rs_corner_y (t : Int32) (h8 : vp_in t 8) (ht : rs_in t (I 0 1)) : rk_call (d + 3) 33 [.ref 0, .int t] (rk_R, I, J) (some (.int (I 1 t.toNatClampNeg))) (rk_R, ij_u I 0 0 0, J) :=
  ij_cr_of (Nat.le_of_ble_eq_true rfl) (rp_corner_0_0 I J t 1 (rs_isSide_y d (ij_u I 0 0 0) J t rfl ht) (rp_corner_10_1 (ij_u I 0 0 0) J t 1 (by decide) h8))
theorem rs_corner_n (t : Int32) (ht : ¬ rs_in t (I 0 1)) : rk_call (d + 3) 33 [.ref 0, .int t] (rk_R, I, J) (some (.int 0)) (rk_R, ij_u (ij_u I 0 0 0) 0 0 1, J) :=
  ij_cr_of (Nat.le_of_ble_eq_true rfl) (rp_corner_0_0 I J t 0 (rs_isSide_n d (ij_u I 0 0 0) J t rfl ht) (rp_corner_10_0 (ij_u (ij_u I 0 0 0) 0 0 1) J t 0 rfl))
end RS1
/-- puts(v): four bytes come behind the tape -/
def rs_puts (I : Nat → Nat → Int32) (v : Int32) (y : Int32) : Nat → Nat → Nat → Int32 := fun n => match n with
  | 0 => I
  | n + 1 => rs_puts (ij_u (ij_u I 3 (I 0 6).toNatClampNeg ((v >>> (y &&& 31)) &&& 255)) 0 6 (I 0 6 + 1)) v (y + (-8)) n
theorem rs_puts_call (d : Nat) (I : Nat → Nat → Int32) (J : Nat → Nat → Int64) (v : Int32) (k : Nat) (hk : k + 4 ≤ 200) (hI : I 0 6 = nI k) : rk_call (d + 1) 4 [.ref 0, .int v] (rk_R, I, J) none (rk_R, rs_puts I v 24 4, J) := by
  refine ij_cr_of (Nat.le_of_ble_eq_true rfl) ?_
  have step : ∀ (n k : Nat) (y : Int32) (I : Nat → Nat → Int32), k + n ≤ 200 → I 0 6 = nI k → y = 8 * nI n - 8 → n ≤ 4 → rk_go (rk_call d) 4 (3, [some (.ref 0), some (.int v), some (.int y)], [], (rk_R, I, J)) none (rk_R, rs_puts I v y n, J) := by
    intro n
    induction n with
    | zero =>
      intro k y I _ _ hy _
      exact rp_puts_3_0 I J v y (by rw [hy]; decide)
    | succ n ih =>
      intro k y I hk hI hy hn
      have hy0 : ¬ y < 0 := by
        rw [hy]
        rcases (show n = 0 ∨ n = 1 ∨ n = 2 ∨ n = 3 by omega) with rfl | rfl | rfl | rfl <;> decide
      refine rp_puts_3_1 I J v y hy0 (by rw [hI]; exact vp_in_nI (by omega) (by omega)) (ih (k + 1) (y + (-8)) _ (by omega) ?_ ?_ (by omega))
      · show I 0 6 + 1 = nI (k + 1)
        rw [hI]
        exact nI_1 k
      · rw [hy]
        rcases (show n = 0 ∨ n = 1 ∨ n = 2 ∨ n = 3 by omega) with rfl | rfl | rfl | rfl <;> decide
  exact rp_puts_0_0 I J v (step 4 k 24 I hk hI (by decide) (by decide))
