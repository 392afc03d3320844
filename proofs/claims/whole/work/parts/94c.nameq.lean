theorem lq_name {X : ij_R} {d : Nat} {R : lk_Rl} (hs : lk_spell R) (h : ∀ b I J I2 J2, R b I J I2 J2 → ∃ p T, lr_nm p T I I2) : lk_q_name X (d + 4) R := by
  intro x i b I J I2 J2 hR
  obtain ⟨p, T, hn⟩ := h b I J I2 J2 hR
  have hn' := hn
  obtain ⟨n1, n2, n3, n4, hp, hT, hf⟩ := hn'
  have hR1 : R b I J (ij_u (ij_u I2 0 0 0) 0 0 1) J2 := hs b I J I2 J2 I _ hR (fun _ _ _ => rfl) (ls_fr2_trans (ls_u0 I2 0) (ls_u0 _ 1))
  by_cases hx : ¬ x < 0 ∧ ¬ I2 0 21 ≤ x
  · have hxc : ¬ x < 0 ∧ ¬ I 6 9 ≤ x := by
      rw [n3, ← n4]
      exact hx
    obtain ⟨t, ht2, rfl⟩ := nI_of hx.1
    have ht : t < T := by
      have := hx.2
      rw [n4] at this
      exact Nat.not_le.mp (fun q => this (nI_le q ht2))
    obtain ⟨r, hr64, f1, f2, -⟩ := hf t ht
    have hTile := rs_isTile_y (d + 2) (ij_u I2 0 0 0) J2 (nI t) rfl hx
    have hv : vp_in (nI t) 2000 := vp_in_nI (by omega) (by decide)
    by_cases hi : i < 0
    · refine Or.inr ⟨0, b, I, J, ij_u (ij_u I2 0 0 0) 0 0 1, J2, ?_, ?_, rfl, hR1⟩
      · exact lx_of (by decide) (Nat.le_of_ble_eq_true rfl) (xp_X10_name_0_0 I J (nI t) i (by decide) (lx_needTile_y (nI t) hxc) (xp_X10_name_5_0 I J (nI t) i hi (by decide)))
      · exact ij_cr_of (Nat.le_of_ble_eq_true rfl) (rp_name_0_0 I2 J2 (nI t) i 1 hTile (rp_name_10_1 _ J2 (nI t) i 1 (by decide) hi 0 (rs_right (d + 3) (ij_u I2 0 0 0) J2 0 1 rfl (by decide)) (rp_name_37_1 _ J2 (nI t) i 0 rfl)))
    · have h34 := lx_ringOf (X := X) (d := d + 2) (b := b) (I := I) (J := J) (a := t) (by omega)
      rw [f1] at h34
      by_cases hir : nI r ≤ i
      · refine Or.inr ⟨0, b, I, J, ij_u (ij_u I2 0 0 0) 0 0 1, J2, ?_, ?_, rfl, hR1⟩
        · exact lx_of (by decide) (Nat.le_of_ble_eq_true rfl) (xp_X10_name_0_0 I J (nI t) i (by decide) (lx_needTile_y (nI t) hxc) (xp_X10_name_5_1 I J (nI t) i (nI r) hi h34 (xp_X10_name_18_1 I J (nI t) i i (nI r) (Int32.not_lt.mpr hir) (by decide))))
        · have q : (ij_u I2 0 0 0) 8 (nI t).toNatClampNeg ≤ i := by
            rw [nI_clamp ht2]
            show I2 8 t ≤ i
            rw [f2]
            exact hir
          exact ij_cr_of (Nat.le_of_ble_eq_true rfl) (rp_name_0_0 I2 J2 (nI t) i 1 hTile (rp_name_10_2 (ij_u I2 0 0 0) J2 (nI t) i 1 (by decide) hi hv q 0 (rs_right (d + 3) (ij_u I2 0 0 0) J2 0 1 rfl (by decide)) (rp_name_37_1 _ J2 (nI t) i 0 rfl)))
      · obtain ⟨j, hj2, rfl⟩ := nI_of hi
        have hj : j < r := Nat.not_le.mp (fun q => hir (nI_le q hj2))
        obtain ⟨I', I2', k1, k2, k3, k4, k5, k6, -⟩ := ls_spell (X := X) (d := d) (d2 := d + 3) (b := b) J J2 (p := p) (T := T) (t := t) (r := r) (I := I) (I2 := ij_u I2 0 0 0) hn ht f1 hr64
        refine Or.inl ⟨I' 14 j, b, I', J, I2', J2, ?_, ?_, k6, hs b I J I2 J2 I' I2' hR k3 (ls_fr2_trans (ls_u0 I2 0) k4)⟩
        · have h45 := xp_X2_spelledAt_0_2 (C := ik_cr xk_P xk_M xk_Y xk_K X (d + 1)) (b := b) I' J (nI j) hi (by decide) (nI_ge (a := j) (b := 64) (by omega) (by decide)) (vp_in_nI (by omega) (by decide))
          rw [nI_clamp hj2] at h45
          exact lx_of (by decide) (Nat.le_of_ble_eq_true rfl) (xp_X10_name_0_0 I J (nI t) (nI j) (by decide) (lx_needTile_y (nI t) hxc) (xp_X10_name_5_1 I J (nI t) (nI j) (nI r) hi h34 (xp_X10_name_18_0 I J (nI t) (nI j) (nI j) (nI r) (I' 14 j) (nI_lt hj (by omega)) (ik_cr_of (Nat.le_of_ble_eq_true rfl) (xp_X2_nameSide_0_0 I J (nI t) (nI j) (nI r) k1 (xp_X2_nameSide_5_0 I' J (nI j) (nI r) (I' 14 j) (ik_cr_of (Nat.le_of_ble_eq_true rfl) h45) (xp_X2_nameSide_11_0 I' J (I' 14 j))))) (xp_X10_name_38_0 I' J (I' 14 j)))))
        · have q : ¬ (ij_u I2 0 0 0) 8 (nI t).toNatClampNeg ≤ nI j := by
            rw [nI_clamp ht2]
            show ¬ I2 8 t ≤ nI j
            rw [f2]
            exact hir
          have e := rp_name_47_0 (C := rk_call (d + 4)) I2' J2 (nI j) (nI r) (vp_in_nI (by omega) (by decide))
          rw [nI_clamp hj2, ← k5 j hj] at e
          exact ij_cr_of (Nat.le_of_ble_eq_true rfl) (rp_name_0_0 I2 J2 (nI t) (nI j) 1 hTile (rp_name_10_3 (ij_u I2 0 0 0) J2 (nI t) (nI j) 1 (by decide) hi hv q 1 (rs_right (d + 3) (ij_u I2 0 0 0) J2 1 1 rfl (by decide)) (rp_name_37_0 (ij_u I2 0 0 0) J2 (nI t) (nI j) 1 (by decide) (nI r) k2 e)))
  · have hxc : ¬ (¬ x < 0 ∧ ¬ I 6 9 ≤ x) := by
      rw [n3, ← n4]
      exact hx
    refine Or.inr ⟨0, b, I, J, ij_u (ij_u I2 0 0 0) 0 0 1, J2, ?_, ?_, rfl, hR1⟩
    · exact lx_of (by decide) (Nat.le_of_ble_eq_true rfl) (xp_X10_name_0_0_t I J x i (by decide) (lx_needTile_n x hxc))
    · exact ij_cr_of (Nat.le_of_ble_eq_true rfl) (rp_name_0_0 I2 J2 x i 0 (rs_isTile_n (d + 2) (ij_u I2 0 0 0) J2 x rfl hx) (rp_name_10_0 _ J2 x i 0 rfl))
