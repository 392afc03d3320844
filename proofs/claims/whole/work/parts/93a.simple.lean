/-! ===== fault, corner, side: both answer alike ===== -/
section LQ1
variable {X : ij_R} {d : Nat} {b b' : Bool} {I I' : Nat → Nat → Int32} {J J' : Nat → Nat → Int64}
/-- a call of the class that may throw, out of a run -/
theorem lx_of {j : Nat} {as : List Value} {σ τ : ij_S} {o : ix_O} (h1 : 1 ≤ xk_co j) (h2 : (lg_sl as).length ≤ ij_ml xk_P j) (h : xk_gx (ik_cr xk_P xk_M xk_Y xk_K X d) (lk_cx2 X d) j (xk_co j) (0, ij_in as (ij_ml xk_P j), [], σ) o τ) : lk_cx2 X (d + 1) j as σ o τ := Or.inr ⟨h1, h2, h⟩
theorem lx_hasSide (x : Int32) : lk_cx1 X (d + 1) 30 [.ref 6, .int x] (xk_R b, I, J) (some (.int (if ¬ x < 0 ∧ ¬ I 6 8 ≤ x then 1 else 0))) (xk_R b, I, J) := by
  refine ik_cr_of (Nat.le_of_ble_eq_true rfl) ?_
  by_cases h0 : x < 0
  · rw [if_neg (fun h => h.1 h0)]
    exact xp_X2_hasSide_0_0 I J x h0
  · by_cases h1 : I 6 8 ≤ x
    · rw [if_neg (fun h => h.2 h1)]
      exact xp_X2_hasSide_0_1 I J x h0 h1
    · rw [if_pos ⟨h0, h1⟩]
      exact xp_X2_hasSide_0_2 I J x h0 h1
theorem lx_needSide_y (x : Int32) (h : ¬ x < 0 ∧ ¬ I 6 8 ≤ x) : lk_cx2 X (d + 2) 142 [.ref 0, .int x] (xk_R b, I, J) (.inl none) (xk_R b, I, J) := by
  refine lx_of (by decide) (Nat.le_of_ble_eq_true rfl) ?_
  have hc := lx_hasSide (X := X) (d := d) (b := b) (I := I) (J := J) x
  rw [if_pos h] at hc
  exact xp_X10_needSide_0_0 I J x 1 hc (xp_X10_needSide_8_0 I J 1 (by decide))
theorem lx_needSide_n (x : Int32) (h : ¬ (¬ x < 0 ∧ ¬ I 6 8 ≤ x)) : lk_cx2 X (d + 2) 142 [.ref 0, .int x] (xk_R b, I, J) (.inr "java/util/NoSuchElementException") (xk_R b, I, J) := by
  refine lx_of (by decide) (Nat.le_of_ble_eq_true rfl) ?_
  have hc := lx_hasSide (X := X) (d := d) (b := b) (I := I) (J := J) x
  rw [if_neg h] at hc
  exact xp_X10_needSide_0_0 I J x 0 hc (xp_X10_needSide_8_1 I J 0 rfl (by decide))
theorem lx_corner_y (x : Int32) (h : ¬ x < 0 ∧ ¬ I 6 8 ≤ x) (h8 : ¬ (8 : Int32) ≤ x) : lk_cx2 X (d + 3) 115 [.ref 0, .int x] (xk_R b, I, J) (.inl (some (.int (I 7 x.toNatClampNeg)))) (xk_R b, I, J) :=
  lx_of (by decide) (Nat.le_of_ble_eq_true rfl) (xp_X10_corner_0_0 I J x (by decide) (lx_needSide_y x h) (xp_X10_corner_5_0 I J x _ (ik_cr_of (Nat.le_of_ble_eq_true rfl) (xp_X2_cornerBehind_0_2 I J x h.1 (by decide) h8 (xw_in (by decide) h.1 h8))) (xp_X10_corner_13_0 I J _)))
theorem lx_corner_n (x : Int32) (h : ¬ (¬ x < 0 ∧ ¬ I 6 8 ≤ x)) : lk_cx2 X (d + 3) 115 [.ref 0, .int x] (xk_R b, I, J) (.inr "java/util/NoSuchElementException") (xk_R b, I, J) :=
  lx_of (by decide) (Nat.le_of_ble_eq_true rfl) (xp_X10_corner_0_0_t I J x (by decide) (lx_needSide_n x h))
theorem lx_side_y (x : Int32) (h : ¬ x < 0 ∧ ¬ I 6 8 ≤ x) (h8 : ¬ (8 : Int32) ≤ x) : lk_cx2 X (d + 3) 130 [.ref 0, .int x] (xk_R b, I, J) (.inl (some (.int (I 8 x.toNatClampNeg)))) (xk_R b, I, J) :=
  lx_of (by decide) (Nat.le_of_ble_eq_true rfl) (xp_X10_side_0_0 I J x (by decide) (lx_needSide_y x h) (xp_X10_side_5_0 I J x _ (ik_cr_of (Nat.le_of_ble_eq_true rfl) (xp_X2_classOfSide_0_2 I J x h.1 (by decide) h8 (xw_in (by decide) h.1 h8))) (xp_X10_side_13_0 I J _)))
theorem lx_side_n (x : Int32) (h : ¬ (¬ x < 0 ∧ ¬ I 6 8 ≤ x)) : lk_cx2 X (d + 3) 130 [.ref 0, .int x] (xk_R b, I, J) (.inr "java/util/NoSuchElementException") (xk_R b, I, J) :=
  lx_of (by decide) (Nat.le_of_ble_eq_true rfl) (xp_X10_side_0_0_t I J x (by decide) (lx_needSide_n x h))
end LQ1
/-- a tie that doesn't look at what the reference threw -/
def lk_free (R : lk_Rl) : Prop := ∀ b I J I2 J2 v, R b I J I2 J2 → R b I J (ij_u I2 0 0 v) J2
theorem lq_fault {X : ij_R} {d : Nat} {R : lk_Rl} (hf : lk_free R) (h : ∀ b I J I2 J2, R b I J I2 J2 → I 0 7 = I2 0 8) : lk_q_fault X d R := by
  intro b I J I2 J2 hR
  refine ⟨I 0 7, b, I, J, ij_u I2 0 0 0, J2, ik_cr_of (Nat.le_of_ble_eq_true rfl) (xp_X10_fault_0_0 I J), ?_, hf b I J I2 J2 0 hR⟩
  have := rs_fault d I2 J2
  rw [← h b I J I2 J2 hR] at this
  exact this
/-- the sides, and a row of eight that both have -/
def lr_row8 (n n2 : Int32) (r r2 : Nat → Int32) : Prop := n = n2 ∧ (∃ p : Nat, p ≤ 8 ∧ n2 = nI p) ∧ ∀ k, k < 8 → r k = r2 k
theorem lr_row8_lt {n n2 : Int32} {r r2 : Nat → Int32} (h : lr_row8 n n2 r r2) {x : Int32} (h0 : ¬ x < 0) (h1 : ¬ n2 ≤ x) : ¬ (8 : Int32) ≤ x ∧ vp_in x 8 ∧ r x.toNatClampNeg = r2 x.toNatClampNeg := by
  obtain ⟨-, ⟨p, hp, rfl⟩, hr⟩ := h
  have h8 : ¬ (8 : Int32) ≤ x := fun q => h1 (Int32.le_trans (nI_le (a := p) (b := 8) hp (by decide)) q)
  have hv : vp_in x 8 := xw_in (by decide) h0 h8
  exact ⟨h8, hv, hr _ (Nat.not_le.mp (fun q => hv (Or.inr q)))⟩
theorem lq_corner {X : ij_R} {d : Nat} {R : lk_Rl} (hf : lk_free R) (h : ∀ b I J I2 J2, R b I J I2 J2 → lr_row8 (I 6 8) (I2 0 1) (I 7) (I2 1)) : lk_q_corner X (d + 3) R := by
  intro x b I J I2 J2 hR
  have hr := h b I J I2 J2 hR
  by_cases hx : ¬ x < 0 ∧ ¬ I2 0 1 ≤ x
  · obtain ⟨g1, g2, g3⟩ := lr_row8_lt hr hx.1 hx.2
    refine Or.inl ⟨I 7 x.toNatClampNeg, b, I, J, ij_u I2 0 0 0, J2, lx_corner_y x (by rw [hr.1]; exact hx) g1, ?_, rfl, hf b I J I2 J2 0 hR⟩
    rw [g3]
    exact rs_corner_y (d + 1) I2 J2 x g2 hx
  · exact Or.inr ⟨0, b, I, J, ij_u (ij_u I2 0 0 0) 0 0 1, J2, lx_corner_n x (by rw [hr.1]; exact hx), rs_corner_n (d + 1) I2 J2 x hx, rfl, hf b I J _ J2 1 (hf b I J I2 J2 0 hR)⟩
