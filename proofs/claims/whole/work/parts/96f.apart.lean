section LB2
variable {X : ij_R} {d d2 : Nat} {b : Bool} {J J2 : Nat → Nat → Int64} {p T M t : Nat}
theorem ls_back {I I2 : Nat → Nat → Int32} (hn : lr_lead p T I I2) (hin : lr_in p T M (I 10) (I 9)) (ht : t < T) : ∃ v I', v < T ∧ lk_cx1 X (d + 3) 43 [.ref 6, .int (nI t)] (xk_R b, I, J) (some (.int (nI v))) (xk_R b, I', J) ∧ rk_call (d2 + 1) 51 [.ref 0, .int (nI t)] (rk_R, I2, J2) (some (.int (nI v))) (rk_R, I2, J2) ∧ ls_fr I I' := by
  have hT := hn.1.2.2.2.2.2.1
  obtain ⟨r, hr64, f1, f2, -⟩ := hn.1.2.2.2.2.2.2 t ht
  obtain ⟨rM, hrM, -, f3, -⟩ := hin.2.2 t ht
  have hrr : r ≤ M := by
    by_cases hlt : rM < 2 ^ 31
    · rw [f1] at f3
      have := (nI_eq (by omega) hlt).mp f3
      omega
    · omega
  obtain ⟨I', -, k1, -, k3, -, -, -, k9⟩ := ls_spell (X := X) (d := d) (d2 := d2) (b := b) J J2 (p := p) (T := T) (t := t) (r := r) (I := I) (I2 := I2) hn.1 ht f1 hr64
  have e9 : I' 9 = I 9 := funext (fun k => k3 9 k (by decide))
  have e10 : I' 10 = I 10 := funext (fun k => k3 10 k (by decide))
  have e11 : I' 11 = I 11 := funext (fun k => k3 11 k (by decide))
  obtain ⟨v, hv, w1, w2⟩ := ls_back_loop (X := X) (d := d + 1) (b := b) (J := J) (J2 := J2) (p := p) (T := T) (M := M) (I := I') (I2 := I2) (lr_lead_fr k3 (fun _ _ _ _ => rfl) hn) (by rw [e9, e10]; exact hin) r t 0 0 (by rw [e9, e11]; exact k9) ht (by rw [e10]; exact f1) hr64 hin.1 (by rw [e10]; exact hin.2.1) (by decide) (by omega)
  refine ⟨v, I', hv, ik_cr_of (Nat.le_of_ble_eq_true rfl) (xp_X2_byNameFromEnd_0_0 I J (nI t) (nI r) k1 (xp_X2_byNameFromEnd_7_0 I' J 0 (nI r) w1)), ?_, k3⟩
  have q := rp_backOf_0_0 (C := rk_call d2) (v := some (.int (nI v))) (τ := (rk_R, I2, J2)) I2 J2 (nI t) (vp_in_nI (by omega) (by decide))
  rw [nI_clamp (by omega), f2] at q
  exact ij_cr_of (Nat.le_of_ble_eq_true rfl) (q (w2 (rk_call d2) I2 rfl rfl rfl))
end LB2
theorem lq_back {X : ij_R} {d : Nat} {R : lk_Rl} (hs : lk_spell R) (h : ∀ b I J I2 J2, R b I J I2 J2 → ∃ p T M, lr_tile p T I I2 ∧ lr_in p T M (I 10) (I 9)) : lk_q_back X (d + 4) R := by
  intro x b I J I2 J2 hR
  obtain ⟨p, T, M, ⟨hn, hacr, hax, -⟩, hin⟩ := h b I J I2 J2 hR
  have hn' := hn
  obtain ⟨n1, n2, n3, n4, hp, hT, hf⟩ := hn'
  by_cases hx : ¬ x < 0 ∧ ¬ I2 0 21 ≤ x
  · obtain ⟨hxc, t, ht, rfl⟩ := lr_tile_of hT n3 n4 hx
    obtain ⟨v, I', hv, g1, g2, g3⟩ := ls_back (X := X) (d := d) (d2 := d + 3) (b := b) (J := J) (J2 := J2) (p := p) (T := T) (M := M) (t := t) (I := I) (I2 := ij_u I2 0 0 0) ⟨hn, hacr, hax⟩ hin ht
    refine Or.inl ⟨nI v, b, I', J, ij_u I2 0 0 0, J2, ?_, ?_, rfl, hs b I J I2 J2 I' _ hR g3 (ls_u0 I2 0)⟩
    · exact lx_of (by decide) (Nat.le_of_ble_eq_true rfl) (xp_X10_back_0_0 I J (nI t) (by decide) (lx_needTile_y (nI t) hxc) (xp_X10_back_5_0 I J (nI t) _ g1 (xp_X10_back_13_0 I' J _)))
    · exact ij_cr_of (Nat.le_of_ble_eq_true rfl) (rp_back_0_0 I2 J2 (nI t) 1 (rs_isTile_y (d + 2) (ij_u I2 0 0 0) J2 (nI t) rfl hx) (rp_back_10_1 (ij_u I2 0 0 0) J2 (nI t) 1 (by decide) _ g2 (rp_back_18_0 _ J2 _)))
  · refine Or.inr ⟨0, b, I, J, ij_u (ij_u I2 0 0 0) 0 0 1, J2, ?_, ?_, rfl, hs b I J I2 J2 I _ hR (fun _ _ _ => rfl) (ls_fr2_trans (ls_u0 I2 0) (ls_u0 _ 1))⟩
    · exact lx_of (by decide) (Nat.le_of_ble_eq_true rfl) (xp_X10_back_0_0_t I J x (by decide) (lx_needTile_n x (by rw [n3, ← n4]; exact hx)))
    · exact ij_cr_of (Nat.le_of_ble_eq_true rfl) (rp_back_0_0 I2 J2 x 0 (rs_isTile_n (d + 2) (ij_u I2 0 0 0) J2 x rfl hx) (rp_back_10_0 _ J2 x 0 rfl))
theorem lq_apart {X : ij_R} {d : Nat} {R : lk_Rl} (hs : lk_spell R) (h : ∀ b I J I2 J2, R b I J I2 J2 → ∃ p T M, lr_tile p T I I2 ∧ lr_in p T M (I 10) (I 9)) : lk_q_apart X (d + 4) R := by
  intro x y b I J I2 J2 hR
  obtain ⟨p, T, M, ⟨hn, hacr, hax, -⟩, hin⟩ := h b I J I2 J2 hR
  have hn' := hn
  obtain ⟨n1, n2, n3, n4, hp, hT, hf⟩ := hn'
  have hR1 : R b I J (ij_u (ij_u I2 0 0 0) 0 0 1) J2 := hs b I J I2 J2 I _ hR (fun _ _ _ => rfl) (ls_fr2_trans (ls_u0 I2 0) (ls_u0 _ 1))
  by_cases hx : ¬ x < 0 ∧ ¬ I2 0 21 ≤ x
  · obtain ⟨hxc, a, ha, rfl⟩ := lr_tile_of hT n3 n4 hx
    by_cases hy : ¬ y < 0 ∧ ¬ I2 0 21 ≤ y
    · obtain ⟨hyc, t, ht, rfl⟩ := lr_tile_of hT n3 n4 hy
      have hl : lr_lead p T I (ij_u I2 0 0 0) := ⟨hn, hacr, hax⟩
      obtain ⟨v, I', hv, g1, g2, g3⟩ := ls_back (X := X) (d := d) (d2 := d + 3) (b := b) (J := J) (J2 := J2) (p := p) (T := T) (M := M) (t := a) (I := I) (I2 := ij_u I2 0 0 0) hl hin ha
      have hl' := lr_lead_fr g3 (fun _ _ _ _ => rfl) hl
      obtain ⟨w, Iw, I2w, hw, k1, k2, k3, k4, k5⟩ := ls_lead (X := X) (d := d) (d2 := d + 2) (b := b) (J := J) (J2 := J2) (p := p) (T := T) (I := I') (I2 := ij_u I2 0 0 0) (t := t) (at_ := nI v) hl'.1 hl'.2.1 hl'.2.2 ht (Or.inr ⟨v, hv, rfl⟩)
      have hlw := lr_lead_fr k3 k4 hl'
      have hRw : R b Iw J I2w J2 := hs b I J I2 J2 Iw I2w hR (ls_fr_trans g3 k3) (ls_fr2_trans (ls_u0 I2 0) k4)
      have hc : ∀ z, xk_gx (ik_cr xk_P xk_M xk_Y xk_K X (d + 3)) (lk_cx2 X (d + 3)) 129 (xk_co 129 - xk_co 141 - xk_co 141) (26, [some (.ref 0), none, none, none], [.int w], (xk_R b, Iw, J)) (.inl (some (.int z))) (xk_R b, Iw, J) → lk_cx2 X (d + 4) 129 [.ref 0, .int (nI a), .int (nI t)] (xk_R b, I, J) (.inl (some (.int z))) (xk_R b, Iw, J) := fun z q =>
        lx_of (by decide) (Nat.le_of_ble_eq_true rfl) (xp_X10_apart_0_0 I J (nI a) (nI t) (by decide) (lx_needTile_y (nI a) hxc) (xp_X10_apart_5_0 I J (nI a) (nI t) (by decide) (lx_needTile_y (nI t) hyc) (xp_X10_apart_10_0 I J (nI a) (nI t) _ g1 (xp_X10_apart_22_0 I' J (nI t) _ w k1 q))))
      have hr : ∀ z, rk_go (rk_call (d + 4)) 53 (33, [some (.ref 0), none, none, none], [.int w], (rk_R, I2w, J2)) (some (.int z)) (rk_R, I2w, J2) → lk_cr1 (d + 5) 53 [.ref 0, .int (nI a), .int (nI t)] (rk_R, I2, J2) (some (.int z)) (rk_R, I2w, J2) := fun z q =>
        ij_cr_of (Nat.le_of_ble_eq_true rfl) (rp_apart_0_0 I2 J2 (nI a) (nI t) 1 (rs_isTile_y (d + 2) (ij_u I2 0 0 0) J2 (nI a) rfl hx) (rp_apart_10_1 (ij_u I2 0 0 0) J2 (nI a) (nI t) 1 (by decide) 1 (rs_isTile_y (d + 2) (ij_u I2 0 0 0) J2 (nI t) rfl hy) (rp_apart_18_0 (ij_u I2 0 0 0) J2 (nI a) (nI t) 1 (by decide) _ g2 (rp_apart_29_0 (ij_u I2 0 0 0) J2 (nI t) _ w k2 q))))
      by_cases hw1 : w = -1
      · exact Or.inl ⟨-1, b, Iw, J, I2w, J2, hc _ (xp_X10_apart_26_1 Iw J w hw1), hr _ (rp_apart_33_1 I2w J2 w hw1), k5, hRw⟩
      · obtain ⟨u, hu, rfl⟩ := hw.resolve_left hw1
        obtain ⟨r, -, f1, f2, -⟩ := hlw.1.2.2.2.2.2.2 u hu
        have e := rp_apart_33_0 (C := rk_call (d + 4)) I2w J2 (nI u) hw1 (vp_in_nI (by omega) (by decide))
        rw [nI_clamp (by omega), f2, ← f1] at e
        exact Or.inl ⟨Iw 10 u, b, Iw, J, I2w, J2, hc _ (xp_X10_apart_26_0 Iw J (nI u) _ hw1 (lx_ringOf (by omega)) (xp_X10_apart_44_0 Iw J _)), hr _ e, k5, hRw⟩
    · refine Or.inr ⟨0, b, I, J, ij_u (ij_u I2 0 0 0) 0 0 1, J2, ?_, ?_, rfl, hR1⟩
      · exact lx_of (by decide) (Nat.le_of_ble_eq_true rfl) (xp_X10_apart_0_0 I J (nI a) y (by decide) (lx_needTile_y (nI a) hxc) (xp_X10_apart_5_0_t I J (nI a) y (by decide) (lx_needTile_n y (by rw [n3, ← n4]; exact hy))))
      · exact ij_cr_of (Nat.le_of_ble_eq_true rfl) (rp_apart_0_0 I2 J2 (nI a) y 1 (rs_isTile_y (d + 2) (ij_u I2 0 0 0) J2 (nI a) rfl hx) (rp_apart_10_1 (ij_u I2 0 0 0) J2 (nI a) y 1 (by decide) 0 (rs_isTile_n (d + 2) (ij_u I2 0 0 0) J2 y rfl hy) (rp_apart_18_1 _ J2 (nI a) y 0 rfl)))
  · refine Or.inr ⟨0, b, I, J, ij_u (ij_u I2 0 0 0) 0 0 1, J2, ?_, ?_, rfl, hR1⟩
    · exact lx_of (by decide) (Nat.le_of_ble_eq_true rfl) (xp_X10_apart_0_0_t I J x y (by decide) (lx_needTile_n x (by rw [n3, ← n4]; exact hx)))
    · exact ij_cr_of (Nat.le_of_ble_eq_true rfl) (rp_apart_0_0 I2 J2 x y 0 (rs_isTile_n (d + 2) (ij_u I2 0 0 0) J2 x rfl hx) (rp_apart_10_0 _ J2 x y 0 rfl))
