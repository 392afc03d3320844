/-! ===== side, across, ways, ring, ant, count: both answer alike ===== -/
section RS2
variable (d : Nat) (I : Nat → Nat → Int32) (J : Nat → Nat → Int64)
theorem rs_side_y (t : Int32) (h8 : vp_in t 8) (ht : rs_in t (I 0 1)) : rk_call (d + 3) 54 [.ref 0, .int t] (rk_R, I, J) (some (.int (I 22 t.toNatClampNeg))) (rk_R, ij_u I 0 0 0, J) :=
  ij_cr_of (Nat.le_of_ble_eq_true rfl) (rp_side_0_0 I J t 1 (rs_isSide_y d (ij_u I 0 0 0) J t rfl ht) (rp_side_10_1 (ij_u I 0 0 0) J t 1 (by decide) h8))
theorem rs_side_n (t : Int32) (ht : ¬ rs_in t (I 0 1)) : rk_call (d + 3) 54 [.ref 0, .int t] (rk_R, I, J) (some (.int 0)) (rk_R, ij_u (ij_u I 0 0 0) 0 0 1, J) :=
  ij_cr_of (Nat.le_of_ble_eq_true rfl) (rp_side_0_0 I J t 0 (rs_isSide_n d (ij_u I 0 0 0) J t rfl ht) (rp_side_10_0 (ij_u (ij_u I 0 0 0) 0 0 1) J t 0 rfl))
theorem rs_ways_y (t : Int32) (h8 : vp_in t 2000) (ht : rs_in t (I 0 21)) : rk_call (d + 3) 38 [.ref 0, .int t] (rk_R, I, J) (some (.long (J 14 t.toNatClampNeg))) (rk_R, ij_u I 0 0 0, J) :=
  ij_cr_of (Nat.le_of_ble_eq_true rfl) (rp_ways_0_0 I J t 1 (rs_isTile_y d (ij_u I 0 0 0) J t rfl ht) (rp_ways_10_1 (ij_u I 0 0 0) J t 1 (by decide) h8))
theorem rs_ways_n (t : Int32) (ht : ¬ rs_in t (I 0 21)) : rk_call (d + 3) 38 [.ref 0, .int t] (rk_R, I, J) (some (.long 0)) (rk_R, ij_u (ij_u I 0 0 0) 0 0 1, J) :=
  ij_cr_of (Nat.le_of_ble_eq_true rfl) (rp_ways_0_0 I J t 0 (rs_isTile_n d (ij_u I 0 0 0) J t rfl ht) (rp_ways_10_0 (ij_u (ij_u I 0 0 0) 0 0 1) J t 0 rfl))
theorem rs_across_y (t s : Int32) (h8 : vp_in (8 * t + s) 16000) (ht : rs_in t (I 0 21)) (hs : rs_in s (I 0 1)) : rk_call (d + 3) 35 [.ref 0, .int t, .int s] (rk_R, I, J) (some (.int (I 7 (8 * t + s).toNatClampNeg))) (rk_R, ij_u I 0 0 0, J) :=
  ij_cr_of (Nat.le_of_ble_eq_true rfl) (rp_across_0_0 I J t s 1 (rs_isTile_y d (ij_u I 0 0 0) J t rfl ht) (rp_across_10_1 (ij_u I 0 0 0) J t s 1 (by decide) 1 (rs_isSide_y d (ij_u I 0 0 0) J s rfl hs) (rp_across_18_1 (ij_u I 0 0 0) J t s 1 (by decide) h8)))
theorem rs_across_n1 (t s : Int32) (ht : ¬ rs_in t (I 0 21)) : rk_call (d + 3) 35 [.ref 0, .int t, .int s] (rk_R, I, J) (some (.int 0)) (rk_R, ij_u (ij_u I 0 0 0) 0 0 1, J) :=
  ij_cr_of (Nat.le_of_ble_eq_true rfl) (rp_across_0_0 I J t s 0 (rs_isTile_n d (ij_u I 0 0 0) J t rfl ht) (rp_across_10_0 (ij_u (ij_u I 0 0 0) 0 0 1) J t s 0 rfl))
theorem rs_across_n2 (t s : Int32) (ht : rs_in t (I 0 21)) (hs : ¬ rs_in s (I 0 1)) : rk_call (d + 3) 35 [.ref 0, .int t, .int s] (rk_R, I, J) (some (.int 0)) (rk_R, ij_u (ij_u I 0 0 0) 0 0 1, J) :=
  ij_cr_of (Nat.le_of_ble_eq_true rfl) (rp_across_0_0 I J t s 1 (rs_isTile_y d (ij_u I 0 0 0) J t rfl ht) (rp_across_10_1 (ij_u I 0 0 0) J t s 1 (by decide) 0 (rs_isSide_n d (ij_u I 0 0 0) J s rfl hs) (rp_across_18_0 (ij_u (ij_u I 0 0 0) 0 0 1) J t s 0 rfl)))
theorem rs_ring_n (t : Int32) (ht : t < 0) : rk_call (d + 2) 39 [.ref 0, .int t] (rk_R, I, J) (some (.int 0)) (rk_R, ij_u (ij_u I 0 0 0) 0 0 1, J) :=
  ij_cr_of (Nat.le_of_ble_eq_true rfl) (rp_ring_0_0 I J t ht 0 (rs_right d (ij_u I 0 0 0) J 0 1 rfl (by decide)) (rp_ring_19_0 (ij_u (ij_u I 0 0 0) 0 0 1) J t 0 rfl))
theorem rs_ring_0 (t : Int32) (ht : ¬ t < 0) (h : I 0 22 < t) : rk_call (d + 2) 39 [.ref 0, .int t] (rk_R, I, J) (some (.int 0)) (rk_R, ij_u I 0 0 0, J) :=
  ij_cr_of (Nat.le_of_ble_eq_true rfl) (rp_ring_0_1 I J t ht 1 (rs_right d (ij_u I 0 0 0) J 1 1 rfl (by decide)) (rp_ring_19_1 (ij_u I 0 0 0) J t 1 (by decide) h))
theorem rs_ring_y (t : Int32) (ht : ¬ t < 0) (h : ¬ I 0 22 < t) (hv : vp_in t 2000) : rk_call (d + 2) 39 [.ref 0, .int t] (rk_R, I, J) (some (.int (I 13 t.toNatClampNeg))) (rk_R, ij_u I 0 0 0, J) :=
  ij_cr_of (Nat.le_of_ble_eq_true rfl) (rp_ring_0_1 I J t ht 1 (rs_right d (ij_u I 0 0 0) J 1 1 rfl (by decide)) (rp_ring_19_2 (ij_u I 0 0 0) J t 1 (by decide) h hv))
theorem rs_ant_n (t : Int32) (ht : t < 0 ∨ 3 < t) : rk_call (d + 2) 70 [.ref 0, .int t] (rk_R, I, J) (some (.int 0)) (rk_R, ij_u (ij_u I 0 0 0) 0 0 1, J) := by
  refine ij_cr_of (Nat.le_of_ble_eq_true rfl) ?_
  by_cases h0 : t < 0
  · exact rp_ant_0_0 I J t h0 0 (rs_right d (ij_u I 0 0 0) J 0 1 rfl (by decide)) (rp_ant_24_4 (ij_u (ij_u I 0 0 0) 0 0 1) J t 0 rfl)
  · exact rp_ant_0_1 I J t h0 (ht.resolve_left h0) 0 (rs_right d (ij_u I 0 0 0) J 0 1 rfl (by decide)) (rp_ant_24_4 (ij_u (ij_u I 0 0 0) 0 0 1) J t 0 rfl)
theorem rs_count_n (t : Int32) (ht : t < 0 ∨ 8 < t) : rk_call (d + 2) 32 [.ref 0, .int t] (rk_R, I, J) (some (.int 0)) (rk_R, ij_u (ij_u I 0 0 0) 0 0 1, J) := by
  refine ij_cr_of (Nat.le_of_ble_eq_true rfl) ?_
  by_cases h0 : t < 0
  · exact rp_count_0_0 I J t h0 0 (rs_right d (ij_u I 0 0 0) J 0 1 rfl (by decide)) (rp_count_25_7 (ij_u (ij_u I 0 0 0) 0 0 1) J t 0 rfl)
  · exact rp_count_0_1 I J t h0 (ht.resolve_left h0) 0 (rs_right d (ij_u I 0 0 0) J 0 1 rfl (by decide)) (rp_count_25_7 (ij_u (ij_u I 0 0 0) 0 0 1) J t 0 rfl)
end RS2
section LQ2
variable {X : ij_R} {d : Nat} {b : Bool} {I : Nat → Nat → Int32} {J : Nat → Nat → Int64}
theorem lx_hasTile (x : Int32) : lk_cx1 X (d + 1) 29 [.ref 6, .int x] (xk_R b, I, J) (some (.int (if ¬ x < 0 ∧ ¬ I 6 9 ≤ x then 1 else 0))) (xk_R b, I, J) := by
  refine ik_cr_of (Nat.le_of_ble_eq_true rfl) ?_
  by_cases h0 : x < 0
  · rw [if_neg (fun h => h.1 h0)]
    exact xp_X2_hasTile_0_0 I J x h0
  · by_cases h1 : I 6 9 ≤ x
    · rw [if_neg (fun h => h.2 h1)]
      exact xp_X2_hasTile_0_1 I J x h0 h1
    · rw [if_pos ⟨h0, h1⟩]
      exact xp_X2_hasTile_0_2 I J x h0 h1
theorem lx_needTile_y (x : Int32) (h : ¬ x < 0 ∧ ¬ I 6 9 ≤ x) : lk_cx2 X (d + 2) 141 [.ref 0, .int x] (xk_R b, I, J) (.inl none) (xk_R b, I, J) := by
  refine lx_of (by decide) (Nat.le_of_ble_eq_true rfl) ?_
  have hc := lx_hasTile (X := X) (d := d) (b := b) (I := I) (J := J) x
  rw [if_pos h] at hc
  exact xp_X10_needTile_0_0 I J x 1 hc (xp_X10_needTile_8_0 I J 1 (by decide))
theorem lx_needTile_n (x : Int32) (h : ¬ (¬ x < 0 ∧ ¬ I 6 9 ≤ x)) : lk_cx2 X (d + 2) 141 [.ref 0, .int x] (xk_R b, I, J) (.inr "java/util/NoSuchElementException") (xk_R b, I, J) := by
  refine lx_of (by decide) (Nat.le_of_ble_eq_true rfl) ?_
  have hc := lx_hasTile (X := X) (d := d) (b := b) (I := I) (J := J) x
  rw [if_neg h] at hc
  exact xp_X10_needTile_0_0 I J x 0 hc (xp_X10_needTile_8_1 I J 0 rfl (by decide))
theorem lx_ways_y (x : Int32) (h : ¬ x < 0 ∧ ¬ I 6 9 ≤ x) (h8 : ¬ (2000 : Int32) ≤ x) : lk_cx2 X (d + 3) 119 [.ref 0, .int x] (xk_R b, I, J) (.inl (some (.long (J 12 x.toNatClampNeg)))) (xk_R b, I, J) :=
  lx_of (by decide) (Nat.le_of_ble_eq_true rfl) (xp_X10_ways_0_0 I J x (by decide) (lx_needTile_y x h) (xp_X10_ways_5_0 I J x _ (ik_cr_of (Nat.le_of_ble_eq_true rfl) (xp_X2_waysTo_0_2 I J x h.1 (by decide) h8 (xw_in (by decide) h.1 h8))) (xp_X10_ways_13_0 I J _)))
theorem lx_ways_n (x : Int32) (h : ¬ (¬ x < 0 ∧ ¬ I 6 9 ≤ x)) : lk_cx2 X (d + 3) 119 [.ref 0, .int x] (xk_R b, I, J) (.inr "java/util/NoSuchElementException") (xk_R b, I, J) :=
  lx_of (by decide) (Nat.le_of_ble_eq_true rfl) (xp_X10_ways_0_0_t I J x (by decide) (lx_needTile_n x h))
theorem lx_across_y (x y : Int32) (h : ¬ x < 0 ∧ ¬ I 6 9 ≤ x) (h2 : ¬ y < 0 ∧ ¬ I 6 8 ≤ y) (h8 : vp_in (x * 8 + y) 16000) (h9 : ¬ (16000 : Int32) ≤ x * 8 + y) : lk_cx2 X (d + 3) 117 [.ref 0, .int x, .int y] (xk_R b, I, J) (.inl (some (.int (I 9 (x * 8 + y).toNatClampNeg)))) (xk_R b, I, J) :=
  lx_of (by decide) (Nat.le_of_ble_eq_true rfl) (xp_X10_across_0_0 I J x y (by decide) (lx_needTile_y x h) (xp_X10_across_5_0 I J x y (by decide) (lx_needSide_y y h2) (xp_X10_across_10_0 I J x y _ (ik_cr_of (Nat.le_of_ble_eq_true rfl) (xp_X2_beyond_0_4 I J x y h.1 h.2 h2.1 (Int32.not_le.mp h2.2) (by decide) h9 h8)) (xp_X10_across_19_0 I J _))))
theorem lx_across_n1 (x y : Int32) (h : ¬ (¬ x < 0 ∧ ¬ I 6 9 ≤ x)) : lk_cx2 X (d + 3) 117 [.ref 0, .int x, .int y] (xk_R b, I, J) (.inr "java/util/NoSuchElementException") (xk_R b, I, J) :=
  lx_of (by decide) (Nat.le_of_ble_eq_true rfl) (xp_X10_across_0_0_t I J x y (by decide) (lx_needTile_n x h))
theorem lx_across_n2 (x y : Int32) (h : ¬ x < 0 ∧ ¬ I 6 9 ≤ x) (h2 : ¬ (¬ y < 0 ∧ ¬ I 6 8 ≤ y)) : lk_cx2 X (d + 3) 117 [.ref 0, .int x, .int y] (xk_R b, I, J) (.inr "java/util/NoSuchElementException") (xk_R b, I, J) :=
  lx_of (by decide) (Nat.le_of_ble_eq_true rfl) (xp_X10_across_0_0 I J x y (by decide) (lx_needTile_y x h) (xp_X10_across_5_0_t I J x y (by decide) (lx_needSide_n y h2)))
theorem lx_ring_n (x : Int32) (h : ¬ (0 : Int32) ≤ x) : lk_cx2 X (d + 1) 120 [.ref 0, .int x] (xk_R b, I, J) (.inr "java/util/NoSuchElementException") (xk_R b, I, J) :=
  lx_of (by decide) (Nat.le_of_ble_eq_true rfl) (xp_X10_ring_0_1 I J x h (by decide))
theorem lx_ring_0 (x : Int32) (h : (0 : Int32) ≤ x) (h1 : I 6 10 < x) : lk_cx2 X (d + 2) 120 [.ref 0, .int x] (xk_R b, I, J) (.inl (some (.int 0))) (xk_R b, I, J) :=
  lx_of (by decide) (Nat.le_of_ble_eq_true rfl) (xp_X10_ring_0_0 I J x _ h (ik_cr_of (Nat.le_of_ble_eq_true rfl) (xp_X2_tilesOfRing_0_1 I J x (Int32.not_lt.mpr h) h1)) (xp_X10_ring_20_0 I J _))
theorem lx_ring_y (x : Int32) (h : (0 : Int32) ≤ x) (h1 : ¬ I 6 10 < x) (h2 : ¬ (64 : Int32) ≤ x) : lk_cx2 X (d + 2) 120 [.ref 0, .int x] (xk_R b, I, J) (.inl (some (.int (I 13 x.toNatClampNeg)))) (xk_R b, I, J) :=
  lx_of (by decide) (Nat.le_of_ble_eq_true rfl) (xp_X10_ring_0_0 I J x _ h (ik_cr_of (Nat.le_of_ble_eq_true rfl) (xp_X2_tilesOfRing_0_3 I J x (Int32.not_lt.mpr h) h1 (by decide) h2 (xw_in (by decide) (Int32.not_lt.mpr h) h2))) (xp_X10_ring_20_0 I J _))
end LQ2
theorem lq_side {X : ij_R} {d : Nat} {R : lk_Rl} (hf : lk_free R) (h : ∀ b I J I2 J2, R b I J I2 J2 → lr_row8 (I 6 8) (I2 0 1) (I 8) (I2 22)) : lk_q_side X (d + 3) R := by
  intro x b I J I2 J2 hR
  have hr := h b I J I2 J2 hR
  by_cases hx : ¬ x < 0 ∧ ¬ I2 0 1 ≤ x
  · obtain ⟨g1, g2, g3⟩ := lr_row8_lt hr hx.1 hx.2
    refine Or.inl ⟨I 8 x.toNatClampNeg, b, I, J, ij_u I2 0 0 0, J2, lx_side_y x (by rw [hr.1]; exact hx) g1, ?_, rfl, hf b I J I2 J2 0 hR⟩
    rw [g3]
    exact rs_side_y (d + 1) I2 J2 x g2 hx
  · exact Or.inr ⟨0, b, I, J, ij_u (ij_u I2 0 0 0) 0 0 1, J2, lx_side_n x (by rw [hr.1]; exact hx), rs_side_n (d + 1) I2 J2 x hx, rfl, hf b I J _ J2 1 (hf b I J I2 J2 0 hR)⟩
/-- the tiles -/
def lr_tiles (n n2 : Int32) : Prop := n = n2 ∧ ∃ p : Nat, p ≤ 2000 ∧ n2 = nI p
theorem lr_tiles_lt {n n2 : Int32} (h : lr_tiles n n2) {x : Int32} (h0 : ¬ x < 0) (h1 : ¬ n2 ≤ x) : ¬ (2000 : Int32) ≤ x ∧ vp_in x 2000 ∧ ∃ j : Nat, j < 2000 ∧ x = nI j ∧ nI j < n2 := by
  obtain ⟨-, p, hp, rfl⟩ := h
  have h8 : ¬ (2000 : Int32) ≤ x := fun q => h1 (Int32.le_trans (nI_le (a := p) (b := 2000) hp (by decide)) q)
  have hv : vp_in x 2000 := xw_in (by decide) h0 h8
  obtain ⟨j, hj, rfl⟩ := vp_in_of hv (by decide)
  exact ⟨h8, hv, j, hj, rfl, Int32.not_le.mp h1⟩
theorem lq_ways {X : ij_R} {d : Nat} {R : lk_Rl} (hf : lk_free R) (h : ∀ b I J I2 J2, R b I J I2 J2 → lr_tiles (I 6 9) (I2 0 21) ∧ ∀ k, nI k < I2 0 21 → k < 2000 → J 12 k = J2 14 k) : lk_q_ways X (d + 3) R := by
  intro x b I J I2 J2 hR
  obtain ⟨hr, hw⟩ := h b I J I2 J2 hR
  by_cases hx : ¬ x < 0 ∧ ¬ I2 0 21 ≤ x
  · obtain ⟨g1, g2, j, hj, rfl, g3⟩ := lr_tiles_lt hr hx.1 hx.2
    refine Or.inl ⟨J 12 (nI j).toNatClampNeg, b, I, J, ij_u I2 0 0 0, J2, lx_ways_y (nI j) (by rw [hr.1]; exact hx) g1, ?_, rfl, hf b I J I2 J2 0 hR⟩
    rw [nI_clamp (by omega), hw j g3 hj]
    have := rs_ways_y (d + 1) I2 J2 (nI j) g2 hx
    rw [nI_clamp (by omega)] at this
    exact this
  · exact Or.inr ⟨0, b, I, J, ij_u (ij_u I2 0 0 0) 0 0 1, J2, lx_ways_n x (by rw [hr.1]; exact hx), rs_ways_n (d + 1) I2 J2 x hx, rfl, hf b I J _ J2 1 (hf b I J I2 J2 0 hR)⟩
theorem lr_8 (a c : Nat) : nI a * 8 + nI c = nI (8 * a + c) := by
  show Int32.ofNat a * Int32.ofNat 8 + Int32.ofNat c = _
  rw [Int32.mul_comm, ← Int32.ofNat_mul, ← Int32.ofNat_add]
  rfl
theorem lr_8' (a c : Nat) : 8 * nI a + nI c = nI (8 * a + c) := by
  rw [Int32.mul_comm, lr_8]
/-- the row of what lies across -/
def lr_across (n : Int32) (r r2 : Nat → Int32) : Prop := ∀ a c : Nat, nI a < n → a < 2000 → c < 8 → r (8 * a + c) = r2 (8 * a + c)
theorem lq_across {X : ij_R} {d : Nat} {R : lk_Rl} (hf : lk_free R) (h : ∀ b I J I2 J2, R b I J I2 J2 → lr_tiles (I 6 9) (I2 0 21) ∧ lr_row8 (I 6 8) (I2 0 1) (I 7) (I2 1) ∧ lr_across (I2 0 21) (I 9) (I2 7)) : lk_q_across X (d + 3) R := by
  intro x y b I J I2 J2 hR
  obtain ⟨hr, hs, ha⟩ := h b I J I2 J2 hR
  by_cases hx : ¬ x < 0 ∧ ¬ I2 0 21 ≤ x
  · by_cases hy : ¬ y < 0 ∧ ¬ I2 0 1 ≤ y
    · obtain ⟨g1, g2, j, hj, rfl, g3⟩ := lr_tiles_lt hr hx.1 hx.2
      obtain ⟨k1, k2, k3⟩ := lr_row8_lt hs hy.1 hy.2
      obtain ⟨c, hc, rfl⟩ := vp_in_of k2 (by decide)
      have q1 : vp_in (nI (8 * j + c)) 16000 := vp_in_nI (by omega) (by decide)
      have q2 : ¬ (16000 : Int32) ≤ nI (8 * j + c) := nI_ge (a := 8 * j + c) (b := 16000) (by omega) (by decide)
      have e1 := lx_across_y (X := X) (d := d) (b := b) (I := I) (J := J) (nI j) (nI c) (by rw [hr.1]; exact hx) (by rw [hs.1]; exact hy) (by rw [lr_8]; exact q1) (by rw [lr_8]; exact q2)
      have e2 := rs_across_y (d + 1) I2 J2 (nI j) (nI c) (by rw [lr_8']; exact q1) hx hy
      rw [lr_8, nI_clamp (by omega), ha j c g3 hj hc] at e1
      rw [lr_8', nI_clamp (by omega)] at e2
      exact Or.inl ⟨_, b, I, J, ij_u I2 0 0 0, J2, e1, e2, rfl, hf b I J I2 J2 0 hR⟩
    · exact Or.inr ⟨0, b, I, J, ij_u (ij_u I2 0 0 0) 0 0 1, J2, lx_across_n2 x y (by rw [hr.1]; exact hx) (by rw [hs.1]; exact hy), rs_across_n2 (d + 1) I2 J2 x y hx hy, rfl, hf b I J _ J2 1 (hf b I J I2 J2 0 hR)⟩
  · exact Or.inr ⟨0, b, I, J, ij_u (ij_u I2 0 0 0) 0 0 1, J2, lx_across_n1 x y (by rw [hr.1]; exact hx), rs_across_n1 (d + 1) I2 J2 x y hx, rfl, hf b I J _ J2 1 (hf b I J I2 J2 0 hR)⟩
/-- the rings' tiles: the rim is below 64 -/
def lr_ring (n n2 : Int32) (r r2 : Nat → Int32) : Prop := n = n2 ∧ ∃ m : Nat, m < 64 ∧ n2 = nI m ∧ ∀ k, k ≤ m → r k = r2 k
theorem lq_ring {X : ij_R} {d : Nat} {R : lk_Rl} (hf : lk_free R) (h : ∀ b I J I2 J2, R b I J I2 J2 → lr_ring (I 6 10) (I2 0 22) (I 13) (I2 13)) : lk_q_ring X (d + 2) R := by
  intro x b I J I2 J2 hR
  obtain ⟨h1, m, hm, h2, hr⟩ := h b I J I2 J2 hR
  by_cases hx : x < 0
  · exact Or.inr ⟨0, b, I, J, ij_u (ij_u I2 0 0 0) 0 0 1, J2, lx_ring_n x (Int32.not_le.mpr hx), rs_ring_n (d + 1) I2 J2 x hx, rfl, hf b I J _ J2 1 (hf b I J I2 J2 0 hR)⟩
  · by_cases hl : I2 0 22 < x
    · exact Or.inl ⟨0, b, I, J, ij_u I2 0 0 0, J2, lx_ring_0 x (Int32.not_lt.mp hx) (by rw [h1]; exact hl), rs_ring_0 (d + 1) I2 J2 x hx hl, rfl, hf b I J I2 J2 0 hR⟩
    · obtain ⟨j, hj, rfl⟩ := nI_of hx
      have hjm : j ≤ m := by
        rw [h2] at hl
        exact Nat.not_lt.mp (fun q => hl (nI_lt q hj))
      have e1 := lx_ring_y (X := X) (d := d) (b := b) (I := I) (J := J) (nI j) (Int32.not_lt.mp hx) (by rw [h1]; exact hl) (nI_ge (a := j) (b := 64) (by omega) (by decide))
      have e2 := rs_ring_y (d + 1) I2 J2 (nI j) hx hl (vp_in_nI (by omega) (by decide))
      rw [nI_clamp hj] at e1 e2
      rw [hr j hjm] at e1
      exact Or.inl ⟨_, b, I, J, ij_u I2 0 0 0, J2, e1, e2, rfl, hf b I J I2 J2 0 hR⟩
