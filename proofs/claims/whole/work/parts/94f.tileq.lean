/-- what tile asks of the tie -/
def lr_tile (p T : Nat) (I I2 : Nat → Nat → Int32) : Prop := lr_nm p T I I2 ∧ lr_acr p T (I 9) ∧ (∀ a s, a < T → s < p → I2 7 (8 * a + s) = I 9 (8 * a + s)) ∧ (∀ a, a < T → I2 9 a = nI (lc_c (lf_ls (I 9) (I 10) a) 0 p)) ∧ lr_col p T (I 10) (I 11) (I 9) (I 8) (I2 10) ∧ ∀ a, a < T → I 43 a = I2 35 a
theorem lq_tile {X : ij_R} {d : Nat} {R : lk_Rl} (hs : lk_spell R) (h : ∀ b I J I2 J2, R b I J I2 J2 → ∃ p T, lr_tile p T I I2) : lk_q_tile X (d + 4) R := by
  intro x i b I J I2 J2 hR
  obtain ⟨p, T, hn, hacr, hax, hls, hcol, hpt⟩ := h b I J I2 J2 hR
  have hn' := hn
  obtain ⟨n1, n2, n3, n4, hp, hT, hf⟩ := hn'
  have hR0 : R b I J (ij_u I2 0 0 0) J2 := hs b I J I2 J2 I _ hR (fun _ _ _ => rfl) (ls_u0 I2 0)
  have hR1 : R b I J (ij_u (ij_u I2 0 0 0) 0 0 1) J2 := hs b I J I2 J2 I _ hR (fun _ _ _ => rfl) (ls_fr2_trans (ls_u0 I2 0) (ls_u0 _ 1))
  by_cases hx : ¬ x < 0 ∧ ¬ I2 0 21 ≤ x
  · have hxc : ¬ x < 0 ∧ ¬ I 6 9 ≤ x := by
      rw [n3, ← n4]
      exact hx
    obtain ⟨t, ht2, rfl⟩ := nI_of hx.1
    have ht : t < T := by
      have := hx.2
      rw [n4] at this
      exact Nat.not_le.mp (fun q => this (nI_le q ht2))
    obtain ⟨r, hr64, f1, f2, -⟩ := hf t ht
    have hTile := rs_isTile_y (d + 2) (ij_u I2 0 0 0) J2 (nI t) rfl hx
    have hv : vp_in (nI t) 2000 := vp_in_nI (by omega) (by decide)
    have hneed := lx_needTile_y (X := X) (d := d + 1) (b := b) (I := I) (J := J) (nI t) hxc
    by_cases hi : i < 0 ∨ 4 < i
    · refine Or.inr ⟨0, b, I, J, ij_u (ij_u I2 0 0 0) 0 0 1, J2, ?_, ?_, rfl, hR1⟩
      · exact lx_of (by decide) (Nat.le_of_ble_eq_true rfl) (xp_X10_tile_0_0 I J (nI t) i (by decide) hneed (xp_X10_tile_5_0 I J (nI t) i (hi.imp (fun q => Int32.lt_iff_toInt_lt.mp q) (fun q => lr_lt (n := 4) (by decide) q)) (by decide)))
      · refine ij_cr_of (Nat.le_of_ble_eq_true rfl) (rp_tile_0_0 I2 J2 (nI t) i 1 hTile ?_)
        by_cases h0 : i < 0
        · exact rp_tile_10_1 _ J2 (nI t) i 1 (by decide) h0 0 (rs_right (d + 3) (ij_u I2 0 0 0) J2 0 1 rfl (by decide)) (rp_tile_32_5 _ J2 (nI t) i 0 rfl)
        · exact rp_tile_10_2 _ J2 (nI t) i 1 (by decide) h0 (hi.resolve_left h0) 0 (rs_right (d + 3) (ij_u I2 0 0 0) J2 0 1 rfl (by decide)) (rp_tile_32_5 _ J2 (nI t) i 0 rfl)
    · have hi0 : ¬ i < 0 := fun q => hi (Or.inl q)
      have hi4 : ¬ (4 : Int32) < i := fun q => hi (Or.inr q)
      have href : ∀ w, rk_go (rk_call (d + 4)) 34 (32, [some (.ref 0), some (.int (nI t)), some (.int i), none, none], [.int 1], (rk_R, ij_u I2 0 0 0, J2)) (some (.int w)) (rk_R, ij_u I2 0 0 0, J2) → lk_cr1 (d + 5) 34 [.ref 0, .int (nI t), .int i] (rk_R, I2, J2) (some (.int w)) (rk_R, ij_u I2 0 0 0, J2) := fun w q =>
        ij_cr_of (Nat.le_of_ble_eq_true rfl) (rp_tile_0_0 I2 J2 (nI t) i 1 hTile (rp_tile_10_3 _ J2 (nI t) i 1 (by decide) hi0 hi4 1 (rs_right (d + 3) (ij_u I2 0 0 0) J2 1 1 rfl (by decide)) q))
      have hcl : ∀ w I', xk_gx (ik_cr xk_P xk_M xk_Y xk_K X (d + 3)) (lk_cx2 X (d + 3)) 116 (xk_co 116 - xk_co 141) (5, [some (.ref 0), some (.int (nI t)), some (.int i)], [], (xk_R b, I, J)) (.inl (some (.int w))) (xk_R b, I', J) → lk_cx2 X (d + 4) 116 [.ref 0, .int (nI t), .int i] (xk_R b, I, J) (.inl (some (.int w))) (xk_R b, I', J) := fun w I' q =>
        lx_of (by decide) (Nat.le_of_ble_eq_true rfl) (xp_X10_tile_0_0 I J (nI t) i (by decide) hneed q)
      obtain ⟨j, hj, rfl⟩ := nI_of2 (M := 4) (n := 4) (by decide) hi0 (Int32.not_lt.mp hi4)
      rcases (show j = 0 ∨ j = 1 ∨ j = 2 ∨ j = 3 ∨ j = 4 by omega) with rfl | rfl | rfl | rfl | rfl
      · refine Or.inl ⟨I 10 t, b, I, J, ij_u I2 0 0 0, J2, hcl _ I (xp_X10_tile_5_1 I J (nI t) (nI 0) _ (by decide) (lx_ringOf (by omega)) (xp_X10_tile_48_0 I J _)), href _ ?_, rfl, hR0⟩
        have e := rp_tile_32_3 (C := rk_call (d + 4)) (ij_u I2 0 0 0) J2 (nI t) (nI 0) 1 (by decide) (by decide) (by decide) hv
        rw [nI_clamp ht2] at e
        rw [f1, ← f2]
        exact e
      · refine Or.inl ⟨_, b, I, J, ij_u I2 0 0 0, J2, hcl _ I (xp_X10_tile_5_2 I J (nI t) (nI 1) _ (by decide) (lx_ls (d := d) hp hT n1 n3 ht hacr) (xp_X10_tile_57_0 I J _)), href _ ?_, rfl, hR0⟩
        have e := rp_tile_32_2 (C := rk_call (d + 4)) (ij_u I2 0 0 0) J2 (nI t) (nI 1) 1 (by decide) (by decide) (by decide) (by decide) hv
        rw [nI_clamp ht2] at e
        rw [← hls t ht]
        exact e
      · obtain ⟨I', -, k1, -, k3, -, -, -, k9⟩ := ls_spell (X := X) (d := d) (d2 := d) (b := b) J J2 (p := p) (T := T) (t := t) (r := r) (I := I) (I2 := ij_u I2 0 0 0) hn ht f1 hr64
        have e8 : I' 8 = I 8 := funext (fun k => k3 8 k (by decide))
        have hc := lx_colour (X := X) (d := d) (b := b) (I := I) (J := J) (t := t) hp hr64 k1 (lr_spl_row r t k9)
        rw [e8, lc_x_col hp hcol r t hr64 ht f1 k9] at hc
        refine Or.inl ⟨_, b, I', J, ij_u I2 0 0 0, J2, hcl _ I' (xp_X10_tile_5_3 I J (nI t) (nI 2) _ (by decide) hc (xp_X10_tile_66_0 I' J _)), href _ ?_, rfl, hs b I J I2 J2 I' _ hR k3 (ls_u0 I2 0)⟩
        have e := rp_tile_32_1 (C := rk_call (d + 4)) (ij_u I2 0 0 0) J2 (nI t) (nI 2) 1 (by decide) (by decide) (by decide) (by decide) (by decide) hv
        rw [nI_clamp ht2] at e
        exact e
      · have e98 := xp_X7_paintOn_42_0_2 (C := ik_cr xk_P xk_M xk_Y xk_K X (d + 1)) (b := b) I J (nI t) hx.1 (by decide) (nI_ge (a := t) (b := 2000) (by omega) (by decide)) hv
        rw [nI_clamp ht2] at e98
        refine Or.inl ⟨I 43 t, b, I, J, ij_u I2 0 0 0, J2, hcl _ I (xp_X10_tile_5_4 I J (nI t) (nI 3) _ (by decide) (ik_cr_of (Nat.le_of_ble_eq_true rfl) (xp_X0_paintOn_0_0 I J (nI t) _ (ik_cr_of (Nat.le_of_ble_eq_true rfl) e98) (xp_X0_paintOn_8_0 I J _))) (xp_X10_tile_75_0 I J _)), href _ ?_, rfl, hR0⟩
        have e := rp_tile_32_0 (C := rk_call (d + 4)) (ij_u I2 0 0 0) J2 (nI t) (nI 3) 1 (by decide) (by decide) (by decide) (by decide) (by decide) hv
        rw [nI_clamp ht2] at e
        rw [hpt t ht]
        exact e
      · refine Or.inl ⟨_, b, I, J, ij_u I2 0 0 0, J2, hcl _ I (xp_X10_tile_5_5 I J (nI t) (nI 4) _ (by decide) (lx_nb (d := d + 1) hp hT n1 n3 ht) (xp_X10_tile_84_0 I J _)), href _ ?_, rfl, hR0⟩
        exact rp_tile_32_4 (ij_u I2 0 0 0) J2 (nI t) (nI 4) 1 (by decide) (by decide) (rs_nb (I := I) (I2 := ij_u I2 0 0 0) _ hp hT n2 ht (fun s q => hax t s ht q))
  · have hxc : ¬ (¬ x < 0 ∧ ¬ I 6 9 ≤ x) := by
      rw [n3, ← n4]
      exact hx
    refine Or.inr ⟨0, b, I, J, ij_u (ij_u I2 0 0 0) 0 0 1, J2, ?_, ?_, rfl, hR1⟩
    · exact lx_of (by decide) (Nat.le_of_ble_eq_true rfl) (xp_X10_tile_0_0_t I J x i (by decide) (lx_needTile_n x hxc))
    · exact ij_cr_of (Nat.le_of_ble_eq_true rfl) (rp_tile_0_0 I2 J2 x i 0 (rs_isTile_n (d + 2) (ij_u I2 0 0 0) J2 x rfl hx) (rp_tile_10_0 _ J2 x i 0 rfl))
