/-! ===== order ===== -/
section LO
variable {X : ij_R} {d d2 : Nat} {b : Bool} {J J2 : Nat → Nat → Int64} {p T t : Nat}
/-- what being led asks of the tie; spelling keeps it -/
def lr_lead (p T : Nat) (I I2 : Nat → Nat → Int32) : Prop := lr_nm p T I I2 ∧ lr_acr p T (I 9) ∧ ∀ a s, a < T → s < p → I2 7 (8 * a + s) = I 9 (8 * a + s)
theorem lr_lead_fr {I I2 I' I2' : Nat → Nat → Int32} (h : ls_fr I I') (h2 : ls_fr2 I2 I2') (hn : lr_lead p T I I2) : lr_lead p T I' I2' := by
  have e9 : I' 9 = I 9 := funext (fun k => h 9 k (by decide))
  have e10 : I' 10 = I 10 := funext (fun k => h 10 k (by decide))
  have e11 : I' 11 = I 11 := funext (fun k => h 11 k (by decide))
  have f7 : I2' 7 = I2 7 := funext (fun k => h2 7 k (by decide) (by omega))
  have f8 : I2' 8 = I2 8 := funext (fun k => h2 8 k (by decide) (by omega))
  have f11 : I2' 11 = I2 11 := funext (fun k => h2 11 k (by decide) (by omega))
  have f12 : I2' 12 = I2 12 := funext (fun k => h2 12 k (by decide) (by omega))
  unfold lr_lead lr_nm
  rw [e9, e10, e11, f7, f8, f11, f12, h 6 8 (by decide), h 6 9 (by decide), h2 0 1 (by decide) (by omega), h2 0 21 (by decide) (by omega)]
  exact hn
theorem ls_order {n9 : Nat} (ht : t < T) : ∀ (m k : Nat) (at_ : Int32) (I I2 : Nat → Nat → Int32), k + m = 61 → lr_at T at_ → ¬ at_ = -1 → lr_lead p T I I2 → ∃ w I' I2', xk_gx (ik_cr xk_P xk_M xk_Y xk_K X (d + 3)) (lk_cx2 X (d + 3)) 127 n9 (9, [some (.ref 0), some (.int (nI t)), some (.int at_), some (.int (nI k))], [], (xk_R b, I, J)) (.inl (some (.int w))) (xk_R b, I', J) ∧ rk_go (rk_call (d2 + 2)) 50 (19, [some (.ref 0), some (.int (nI t)), some (.int at_), some (.int (nI k))], [], (rk_R, I2, J2)) (some (.int w)) (rk_R, I2', J2) ∧ ls_fr I I' ∧ ls_fr2 I2 I2' ∧ I2' 0 0 = I2 0 0 := by
  intro m
  induction m with
  | zero =>
    intro k at_ I I2 hk _ _ _
    have : k = 61 := by omega
    subst this
    exact ⟨-1, I, I2, xp_X10_order_9_0 I J (nI t) at_ (nI 61) (by decide), rp_order_19_0 I2 J2 (nI t) at_ (nI 61) (by decide), fun _ _ _ => rfl, fun _ _ _ _ => rfl, rfl⟩
  | succ m ih =>
    intro k at_ I I2 hk ha hm hn
    have h60 : ¬ (60 : Int32) < nI k := nI_nlt (a := 60) (by omega) (by decide)
    obtain ⟨w, I', I2', hw, g1, g2, g3, g4, g5⟩ := ls_lead (X := X) (d := d) (d2 := d2) (b := b) (J := J) (J2 := J2) (p := p) (T := T) (I := I) (I2 := I2) (t := t) (at_ := at_) hn.1 hn.2.1 hn.2.2 ht ha
    by_cases hw1 : w = -1
    · refine ⟨-1, I', I2', xp_X10_order_9_2 I J (nI t) at_ (nI k) w h60 hm g1 (xp_X10_order_29_0 I' J (nI t) (nI k) w (by rw [hw1]; decide) ?_), rp_order_19_1 I2 J2 (nI t) at_ (nI k) h60 w g2 (rp_order_31_2 I2' J2 (nI t) (nI k) w hw1), g3, g4, g5⟩
      by_cases h61 : (60 : Int32) < nI k + 1
      · exact xp_X10_order_9_0 I' J (nI t) w (nI k + 1) h61
      · exact xp_X10_order_9_1 I' J (nI t) w (nI k + 1) h61 hw1
    · by_cases hw0 : w = 0
      · exact ⟨nI k, I', I2', xp_X10_order_9_2 I J (nI t) at_ (nI k) w h60 hm g1 (xp_X10_order_29_1 I' J (nI t) (nI k) w hw0), rp_order_19_1 I2 J2 (nI t) at_ (nI k) h60 w g2 (rp_order_31_1 I2' J2 (nI t) (nI k) w hw1 hw0), g3, g4, g5⟩
      · obtain ⟨v, Iv, I2v, v1, v2, v3, v4, v5⟩ := ih (k + 1) w I' I2' (by omega) hw hw1 (lr_lead_fr g3 g4 hn)
        rw [← nI_1] at v1 v2
        exact ⟨v, Iv, I2v, xp_X10_order_9_2 I J (nI t) at_ (nI k) w h60 hm g1 (xp_X10_order_29_0 I' J (nI t) (nI k) w hw0 v1), rp_order_19_1 I2 J2 (nI t) at_ (nI k) h60 w g2 (rp_order_31_0 I2' J2 (nI t) (nI k) w hw1 hw0 v2), ls_fr_trans g3 v3, ls_fr2_trans g4 v4, v5.trans g5⟩
end LO
theorem lq_order {X : ij_R} {d : Nat} {R : lk_Rl} (hs : lk_spell R) (h : ∀ b I J I2 J2, R b I J I2 J2 → ∃ p T, lr_tile p T I I2) : lk_q_order X (d + 4) R := by
  intro x b I J I2 J2 hR
  obtain ⟨p, T, hn, hacr, hax, -⟩ := h b I J I2 J2 hR
  have hn' := hn
  obtain ⟨n1, n2, n3, n4, hp, hT, hf⟩ := hn'
  by_cases hx : ¬ x < 0 ∧ ¬ I2 0 21 ≤ x
  · obtain ⟨hxc, t, ht, rfl⟩ := lr_tile_of hT n3 n4 hx
    obtain ⟨w, I', I2', g1, g2, g3, g4, g5⟩ := ls_order (X := X) (d := d) (d2 := d + 2) (b := b) (J := J) (J2 := J2) (p := p) (T := T) (t := t) (n9 := xk_co 127 - xk_co 141) ht 60 1 0 I (ij_u I2 0 0 0) (by decide) (Or.inr ⟨0, by omega, rfl⟩) (by decide) ⟨hn, hacr, hax⟩
    refine Or.inl ⟨w, b, I', J, I2', J2, ?_, ?_, g5, hs b I J I2 J2 I' I2' hR g3 (ls_fr2_trans (ls_u0 I2 0) g4)⟩
    · exact lx_of (by decide) (Nat.le_of_ble_eq_true rfl) (xp_X10_order_0_0 I J (nI t) (by decide) (lx_needTile_y (nI t) hxc) (xp_X10_order_5_0 I J (nI t) g1))
    · exact ij_cr_of (Nat.le_of_ble_eq_true rfl) (rp_order_0_0 I2 J2 (nI t) 1 (rs_isTile_y (d + 2) (ij_u I2 0 0 0) J2 (nI t) rfl hx) (rp_order_10_0 (ij_u I2 0 0 0) J2 (nI t) 1 (by decide) g2))
  · refine Or.inr ⟨0, b, I, J, ij_u (ij_u I2 0 0 0) 0 0 1, J2, ?_, ?_, rfl, hs b I J I2 J2 I _ hR (fun _ _ _ => rfl) (ls_fr2_trans (ls_u0 I2 0) (ls_u0 _ 1))⟩
    · exact lx_of (by decide) (Nat.le_of_ble_eq_true rfl) (xp_X10_order_0_0_t I J x (by decide) (lx_needTile_n x (by rw [n3, ← n4]; exact hx)))
    · exact ij_cr_of (Nat.le_of_ble_eq_true rfl) (rp_order_0_0 I2 J2 x 0 (rs_isTile_n (d + 2) (ij_u I2 0 0 0) J2 x rfl hx) (rp_order_10_1 _ J2 x 0 rfl))
