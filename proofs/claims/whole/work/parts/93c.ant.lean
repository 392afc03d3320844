/-! ===== ant, count: both answer alike ===== -/
theorem lr_lt {n x : Int32} {k : Int} (h : n.toInt = k) (q : n < x) : k < x.toInt := h ▸ Int32.lt_iff_toInt_lt.mp q
theorem lq_ant {X : ij_R} {d : Nat} {R : lk_Rl} (hf : lk_free R) (h : ∀ b I J I2 J2, R b I J I2 J2 → I 42 1 = I2 0 59 ∧ I 42 2 = I2 0 60 ∧ I 42 3 = I2 0 61 ∧ I 42 4 = I2 0 62) : lk_q_ant X (d + 1) R := by
  intro x b I J I2 J2 hR
  obtain ⟨h1, h2, h3, h4⟩ := h b I J I2 J2 hR
  by_cases hx : x < 0 ∨ 3 < x
  · refine Or.inr ⟨0, b, I, J, ij_u (ij_u I2 0 0 0) 0 0 1, J2, lx_of (by decide) (Nat.le_of_ble_eq_true rfl) (xp_X10_ant_0_0 I J x ?_ (by decide)), rs_ant_n d I2 J2 x hx, rfl, hf b I J _ J2 1 (hf b I J I2 J2 0 hR)⟩
    exact hx.imp (fun q => Int32.lt_iff_toInt_lt.mp q) (fun q => lr_lt (n := 3) (by decide) q)
  · obtain ⟨j, hj, rfl⟩ := nI_of2 (M := 3) (n := 3) (by decide) (fun q => hx (Or.inl q)) (Int32.not_lt.mp (fun q => hx (Or.inr q)))
    rcases (show j = 0 ∨ j = 1 ∨ j = 2 ∨ j = 3 by omega) with rfl | rfl | rfl | rfl
    · refine Or.inl ⟨I 42 1, b, I, J, ij_u I2 0 0 0, J2, lx_of (by decide) (Nat.le_of_ble_eq_true rfl) (xp_X10_ant_0_1 I J (nI 0) (by decide)), ?_, rfl, hf b I J I2 J2 0 hR⟩
      rw [h1]
      exact ij_cr_of (Nat.le_of_ble_eq_true rfl) (rp_ant_0_2 I2 J2 (nI 0) (by decide) (by decide) 1 (rs_right d (ij_u I2 0 0 0) J2 1 1 rfl (by decide)) (rp_ant_24_3 (ij_u I2 0 0 0) J2 (nI 0) 1 (by decide) (by decide)))
    · refine Or.inl ⟨I 42 2, b, I, J, ij_u I2 0 0 0, J2, lx_of (by decide) (Nat.le_of_ble_eq_true rfl) (xp_X10_ant_0_2 I J (nI 1) (by decide)), ?_, rfl, hf b I J I2 J2 0 hR⟩
      rw [h2]
      exact ij_cr_of (Nat.le_of_ble_eq_true rfl) (rp_ant_0_2 I2 J2 (nI 1) (by decide) (by decide) 1 (rs_right d (ij_u I2 0 0 0) J2 1 1 rfl (by decide)) (rp_ant_24_2 (ij_u I2 0 0 0) J2 (nI 1) 1 (by decide) (by decide) (by decide)))
    · refine Or.inl ⟨I 42 3, b, I, J, ij_u I2 0 0 0, J2, lx_of (by decide) (Nat.le_of_ble_eq_true rfl) (xp_X10_ant_0_3 I J (nI 2) (by decide)), ?_, rfl, hf b I J I2 J2 0 hR⟩
      rw [h3]
      exact ij_cr_of (Nat.le_of_ble_eq_true rfl) (rp_ant_0_2 I2 J2 (nI 2) (by decide) (by decide) 1 (rs_right d (ij_u I2 0 0 0) J2 1 1 rfl (by decide)) (rp_ant_24_1 (ij_u I2 0 0 0) J2 (nI 2) 1 (by decide) (by decide) (by decide) (by decide)))
    · refine Or.inl ⟨I 42 4, b, I, J, ij_u I2 0 0 0, J2, lx_of (by decide) (Nat.le_of_ble_eq_true rfl) (xp_X10_ant_0_4 I J (nI 3) (by decide)), ?_, rfl, hf b I J I2 J2 0 hR⟩
      rw [h4]
      exact ij_cr_of (Nat.le_of_ble_eq_true rfl) (rp_ant_0_2 I2 J2 (nI 3) (by decide) (by decide) 1 (rs_right d (ij_u I2 0 0 0) J2 1 1 rfl (by decide)) (rp_ant_24_0 (ij_u I2 0 0 0) J2 (nI 3) 1 (by decide) (by decide) (by decide) (by decide)))
/-- what count answers, of both -/
def lr_count (I I2 : Nat → Nat → Int32) : Prop := I 6 8 = I2 0 1 ∧ I 6 9 = I2 0 21 ∧ I 6 10 = I2 0 22 ∧ I 40 5 = I2 0 2 ∧ I 6 11 = I2 0 39 ∧ I 1 1 = I2 0 6 ∧ I 0 8 = I2 4 0 ∧ I 0 9 = I2 4 1 ∧ I 0 10 = I2 4 2
theorem rs_count_y (d : Nat) (I : Nat → Nat → Int32) (J : Nat → Nat → Int64) (x : Int32) (h0 : ¬ x < 0) (h8 : ¬ (8 : Int32) < x) (w : Int32) (h : rk_go (rk_call (d + 1)) 32 (25, [some (.ref 0), some (.int x)], [.int 1], (rk_R, ij_u I 0 0 0, J)) (some (.int w)) (rk_R, ij_u I 0 0 0, J)) : rk_call (d + 2) 32 [.ref 0, .int x] (rk_R, I, J) (some (.int w)) (rk_R, ij_u I 0 0 0, J) :=
  ij_cr_of (Nat.le_of_ble_eq_true rfl) (rp_count_0_2 I J x h0 h8 1 (rs_right d (ij_u I 0 0 0) J 1 1 rfl (by decide)) h)
theorem lq_count {X : ij_R} {d : Nat} {R : lk_Rl} (hf : lk_free R) (h : ∀ b I J I2 J2, R b I J I2 J2 → lr_count I I2) : lk_q_count X (d + 1) R := by
  intro x b I J I2 J2 hR
  obtain ⟨h1, h2, h3, h4, h5, h6, h7, h8, h9⟩ := h b I J I2 J2 hR
  by_cases hx : x < 0 ∨ 8 < x
  · refine Or.inr ⟨0, b, I, J, ij_u (ij_u I2 0 0 0) 0 0 1, J2, lx_of (by decide) (Nat.le_of_ble_eq_true rfl) (xp_X10_count_0_0 I J x ?_ (by decide)), rs_count_n d I2 J2 x hx, rfl, hf b I J _ J2 1 (hf b I J I2 J2 0 hR)⟩
    exact hx.imp (fun q => Int32.lt_iff_toInt_lt.mp q) (fun q => lr_lt (n := 8) (by decide) q)
  · obtain ⟨j, hj, rfl⟩ := nI_of2 (M := 8) (n := 8) (by decide) (fun q => hx (Or.inl q)) (Int32.not_lt.mp (fun q => hx (Or.inr q)))
    rcases (show j = 0 ∨ j = 1 ∨ j = 2 ∨ j = 3 ∨ j = 4 ∨ j = 5 ∨ j = 6 ∨ j = 7 ∨ j = 8 by omega) with rfl | rfl | rfl | rfl | rfl | rfl | rfl | rfl | rfl
    · refine Or.inl ⟨_, b, I, J, ij_u I2 0 0 0, J2, lx_of (by decide) (Nat.le_of_ble_eq_true rfl) (xp_X10_count_0_1 I J (nI 0) (by decide)), ?_, rfl, hf b I J I2 J2 0 hR⟩
      rw [h1]
      exact rs_count_y d I2 J2 (nI 0) (by decide) (by decide) _ (rp_count_25_1 (ij_u I2 0 0 0) J2 (nI 0) 1 (by decide) (by decide))
    · refine Or.inl ⟨_, b, I, J, ij_u I2 0 0 0, J2, lx_of (by decide) (Nat.le_of_ble_eq_true rfl) (xp_X10_count_0_2 I J (nI 1) (by decide)), ?_, rfl, hf b I J I2 J2 0 hR⟩
      rw [h2]
      exact rs_count_y d I2 J2 (nI 1) (by decide) (by decide) _ (rp_count_25_2 (ij_u I2 0 0 0) J2 (nI 1) 1 (by decide) (by decide))
    · refine Or.inl ⟨_, b, I, J, ij_u I2 0 0 0, J2, lx_of (by decide) (Nat.le_of_ble_eq_true rfl) (xp_X10_count_0_3 I J (nI 2) (by decide)), ?_, rfl, hf b I J I2 J2 0 hR⟩
      rw [h3]
      exact rs_count_y d I2 J2 (nI 2) (by decide) (by decide) _ (rp_count_25_3 (ij_u I2 0 0 0) J2 (nI 2) 1 (by decide) (by decide))
    · refine Or.inl ⟨_, b, I, J, ij_u I2 0 0 0, J2, lx_of (by decide) (Nat.le_of_ble_eq_true rfl) (xp_X10_count_0_4 I J (nI 3) (by decide)), ?_, rfl, hf b I J I2 J2 0 hR⟩
      rw [h4]
      exact rs_count_y d I2 J2 (nI 3) (by decide) (by decide) _ (rp_count_25_4 (ij_u I2 0 0 0) J2 (nI 3) 1 (by decide) (by decide))
    · refine Or.inl ⟨_, b, I, J, ij_u I2 0 0 0, J2, lx_of (by decide) (Nat.le_of_ble_eq_true rfl) (xp_X10_count_0_5 I J (nI 4) (by decide)), ?_, rfl, hf b I J I2 J2 0 hR⟩
      rw [h5]
      exact rs_count_y d I2 J2 (nI 4) (by decide) (by decide) _ (rp_count_25_5 (ij_u I2 0 0 0) J2 (nI 4) 1 (by decide) (by decide))
    · refine Or.inl ⟨_, b, I, J, ij_u I2 0 0 0, J2, lx_of (by decide) (Nat.le_of_ble_eq_true rfl) (xp_X10_count_0_6 I J (nI 5) (by decide)), ?_, rfl, hf b I J I2 J2 0 hR⟩
      rw [h6]
      exact rs_count_y d I2 J2 (nI 5) (by decide) (by decide) _ (rp_count_25_6 (ij_u I2 0 0 0) J2 (nI 5) 1 (by decide) (by decide))
    · refine Or.inl ⟨_, b, I, J, ij_u I2 0 0 0, J2, lx_of (by decide) (Nat.le_of_ble_eq_true rfl) (xp_X10_count_0_7 I J (nI 6) (by decide)), ?_, rfl, hf b I J I2 J2 0 hR⟩
      rw [h7]
      exact rs_count_y d I2 J2 (nI 6) (by decide) (by decide) _ (rp_count_25_0 (ij_u I2 0 0 0) J2 (nI 6) 1 (by decide) (Or.inr (by decide)) (vp_in_nI (n := 0) (by decide) (by decide)))
    · refine Or.inl ⟨_, b, I, J, ij_u I2 0 0 0, J2, lx_of (by decide) (Nat.le_of_ble_eq_true rfl) (xp_X10_count_0_8 I J (nI 7) (by decide)), ?_, rfl, hf b I J I2 J2 0 hR⟩
      rw [h8]
      exact rs_count_y d I2 J2 (nI 7) (by decide) (by decide) _ (rp_count_25_0 (ij_u I2 0 0 0) J2 (nI 7) 1 (by decide) (Or.inr (by decide)) (vp_in_nI (n := 1) (by decide) (by decide)))
    · refine Or.inl ⟨_, b, I, J, ij_u I2 0 0 0, J2, lx_of (by decide) (Nat.le_of_ble_eq_true rfl) (xp_X10_count_0_9 I J (nI 8) (by decide)), ?_, rfl, hf b I J I2 J2 0 hR⟩
      rw [h9]
      exact rs_count_y d I2 J2 (nI 8) (by decide) (by decide) _ (rp_count_25_0 (ij_u I2 0 0 0) J2 (nI 8) 1 (by decide) (Or.inr (by decide)) (vp_in_nI (n := 2) (by decide) (by decide)))
