/-! ===== move: both are led alike ===== -/
def lr_at (T : Nat) (w : Int32) : Prop := w = -1 ∨ ∃ u, u < T ∧ w = nI u
section LM
variable {X : ij_R} {d d2 : Nat} {b : Bool} {J J2 : Nat → Nat → Int64} {p T r : Nat}
theorem ls_lead_loop {I I2 : Nat → Nat → Int32} (hp : p ≤ 8) (hT : T ≤ 2000) (n1 : I 6 8 = nI p) (n3 : I 6 9 = nI T) (hacr : lr_acr p T (I 9)) (hax : ∀ a s, a < T → s < p → I2 7 (8 * a + s) = I 9 (8 * a + s)) (hrow : ∀ k, k < r → ∃ s, s < p ∧ I 14 k = nI s ∧ I2 23 k = nI s) (h64 : r < 64) : ∀ (m k : Nat) (at_ : Int32), k + m = r → lr_at T at_ → ∃ w, lr_at T w ∧ xk_go (ik_cr xk_P xk_M xk_Y xk_K X (d + 1)) 42 (12, [some (.ref 6), none, none, some (.int at_), some (.int (nI r)), some (.int (nI k))], [], (xk_R b, I, J)) (some (.int w)) (xk_R b, I, J) ∧ rk_go (rk_call d2) 47 (12, [some (.ref 0), none, none, some (.int (nI r)), some (.int at_), some (.int (nI k))], [], (rk_R, I2, J2)) (some (.int w)) (rk_R, I2, J2) := by
  intro m
  induction m with
  | zero =>
    intro k at_ hk ha
    have : k = r := by omega
    subst this
    have hle : nI k ≤ nI k := nI_le (Nat.le_refl k) (by omega)
    exact ⟨at_, ha, xp_X2_byName_12_0 I J at_ (nI k) (nI k) hle, rp_leads_12_0 I2 J2 (nI k) at_ (nI k) hle⟩
  | succ m ih =>
    intro k at_ hk ha
    have hge : ¬ nI r ≤ nI k := nI_ge (by omega) (by omega)
    by_cases hm : at_ = -1
    · exact ⟨at_, ha, xp_X2_byName_12_1 I J at_ (nI r) (nI k) hge hm, rp_leads_12_1 I2 J2 (nI r) at_ (nI k) hge hm⟩
    · obtain ⟨u, hu, rfl⟩ := ha.resolve_left hm
      obtain ⟨s, hs, hs1, hs2⟩ := hrow k (by omega)
      obtain ⟨w, hw, g1, g2⟩ := ih (k + 1) (I 9 (8 * u + s)) (by omega) (hacr u s hu hs)
      rw [← nI_1] at g1 g2
      have h45 := lx_spelledAt (X := X) (d := d) (b := b) (I := I) (J := J) (k := k) (by omega)
      rw [hs1] at h45
      refine ⟨w, hw, ?_, ?_⟩
      · exact xp_X2_byName_12_2 I J (nI u) (nI r) (nI k) (nI s) hge hm h45 (xp_X2_byName_32_0 I J (nI r) (nI k) (nI u) (nI s) _ (lx_beyond hp hT n1 n3 hu hs) (xp_X2_byName_35_0 I J (nI r) (nI k) _ g1))
      · have e1 : I2 23 (nI k).toNatClampNeg = nI s := by
          rw [nI_clamp (by omega)]
          exact hs2
        have q := rp_leads_12_2 (C := rk_call d2) (v := some (.int w)) (τ := (rk_R, I2, J2)) I2 J2 (nI r) (nI u) (nI k) hge hm (vp_in_nI (by omega) (by decide)) (by rw [e1, lr_8']; exact vp_in_nI (by omega) (by decide))
        rw [e1, lr_8', nI_clamp (by omega), hax u s hu hs] at q
        exact q g2
/-- the name of tile t, followed from a place -/
theorem ls_lead {I I2 : Nat → Nat → Int32} {t : Nat} {at_ : Int32} (hn : lr_nm p T I I2) (hacr : lr_acr p T (I 9)) (hax : ∀ a s, a < T → s < p → I2 7 (8 * a + s) = I 9 (8 * a + s)) (ht : t < T) (ha : lr_at T at_) : ∃ w I' I2', lr_at T w ∧ lk_cx1 X (d + 3) 42 [.ref 6, .int at_, .int (nI t)] (xk_R b, I, J) (some (.int w)) (xk_R b, I', J) ∧ rk_call (d2 + 2) 47 [.ref 0, .int at_, .int (nI t)] (rk_R, I2, J2) (some (.int w)) (rk_R, I2', J2) ∧ ls_fr I I' ∧ ls_fr2 I2 I2' ∧ I2' 0 0 = I2 0 0 := by
  obtain ⟨n1, n2, n3, n4, hp, hT, hf⟩ := hn
  obtain ⟨r, hr64, f1, f2, -⟩ := hf t ht
  obtain ⟨I', I2', k1, k2, k3, k4, k5, k6, k9⟩ := ls_spell (X := X) (d := d) (d2 := d2) (b := b) J J2 (p := p) (T := T) (t := t) (r := r) (I := I) (I2 := I2) ⟨n1, n2, n3, n4, hp, hT, hf⟩ ht f1 hr64
  have hrow : ∀ k, k < r → ∃ s, s < p ∧ I' 14 k = nI s ∧ I2' 23 k = nI s := fun k hk => by
    obtain ⟨s, hs, e⟩ := lr_spl_row r t k9 k hk
    exact ⟨s, hs, e, by rw [← k5 k hk]; exact e⟩
  have e9 : I' 9 = I 9 := funext (fun k => k3 9 k (by decide))
  have e7 : I2' 7 = I2 7 := funext (fun k => k4 7 k (by decide) (by omega))
  obtain ⟨w, hw, g1, g2⟩ := ls_lead_loop (X := X) (d := d + 1) (d2 := d2 + 1) (b := b) (J := J) (J2 := J2) (I := I') (I2 := I2') hp hT ((k3 6 8 (by decide)).trans n1) ((k3 6 9 (by decide)).trans n3) (by rw [e9]; exact hacr) (by rw [e9, e7]; exact hax) hrow hr64 r 0 at_ (Nat.zero_add r) ha
  exact ⟨w, I', I2', hw, ik_cr_of (Nat.le_of_ble_eq_true rfl) (xp_X2_byName_0_0 I J at_ (nI t) (nI r) k1 (xp_X2_byName_7_0 I' J at_ (nI r) g1)), ij_cr_of (Nat.le_of_ble_eq_true rfl) (rp_leads_0_0 I2 J2 at_ (nI t) (nI r) k2 (rp_leads_5_0 I2' J2 at_ (nI r) g2)), k3, k4, k6⟩
end LM
theorem lr_tile_of {T : Nat} {n n2 x : Int32} (hT : T ≤ 2000) (h : n = nI T) (h2 : n2 = nI T) (hx : ¬ x < 0 ∧ ¬ n2 ≤ x) : (¬ x < 0 ∧ ¬ n ≤ x) ∧ ∃ t, t < T ∧ x = nI t := by
  subst h h2
  obtain ⟨t, ht, rfl⟩ := nI_of hx.1
  exact ⟨hx, t, Nat.not_le.mp (fun q => hx.2 (nI_le q ht)), rfl⟩
theorem lq_move {X : ij_R} {d : Nat} {R : lk_Rl} (hs : lk_spell R) (h : ∀ b I J I2 J2, R b I J I2 J2 → ∃ p T, lr_tile p T I I2) : lk_q_move X (d + 4) R := by
  intro x y b I J I2 J2 hR
  obtain ⟨p, T, hn, hacr, hax, -⟩ := h b I J I2 J2 hR
  have hn' := hn
  obtain ⟨n1, n2, n3, n4, hp, hT, hf⟩ := hn'
  have hR1 : R b I J (ij_u (ij_u I2 0 0 0) 0 0 1) J2 := hs b I J I2 J2 I _ hR (fun _ _ _ => rfl) (ls_fr2_trans (ls_u0 I2 0) (ls_u0 _ 1))
  by_cases hx : ¬ x < 0 ∧ ¬ I2 0 21 ≤ x
  · obtain ⟨hxc, a, ha, rfl⟩ := lr_tile_of hT n3 n4 hx
    by_cases hy : ¬ y < 0 ∧ ¬ I2 0 21 ≤ y
    · obtain ⟨hyc, t, ht, rfl⟩ := lr_tile_of hT n3 n4 hy
      obtain ⟨w, I', I2', -, g1, g2, g3, g4, g5⟩ := ls_lead (X := X) (d := d) (d2 := d + 2) (b := b) (J := J) (J2 := J2) (p := p) (T := T) (I := I) (I2 := ij_u I2 0 0 0) (t := t) (at_ := nI a) hn hacr hax ht (Or.inr ⟨a, ha, rfl⟩)
      refine Or.inl ⟨w, b, I', J, I2', J2, ?_, ?_, g5, hs b I J I2 J2 I' I2' hR g3 (ls_fr2_trans (ls_u0 I2 0) g4)⟩
      · exact lx_of (by decide) (Nat.le_of_ble_eq_true rfl) (xp_X10_move_0_0 I J (nI a) (nI t) (by decide) (lx_needTile_y (nI a) hxc) (xp_X10_move_5_0 I J (nI a) (nI t) (by decide) (lx_needTile_y (nI t) hyc) (xp_X10_move_10_0 I J (nI a) (nI t) w g1 (xp_X10_move_19_0 I' J w))))
      · exact ij_cr_of (Nat.le_of_ble_eq_true rfl) (rp_move_0_0 I2 J2 (nI a) (nI t) 1 (rs_isTile_y (d + 2) (ij_u I2 0 0 0) J2 (nI a) rfl hx) (rp_move_10_1 (ij_u I2 0 0 0) J2 (nI a) (nI t) 1 (by decide) 1 (rs_isTile_y (d + 2) (ij_u I2 0 0 0) J2 (nI t) rfl hy) (rp_move_18_1 (ij_u I2 0 0 0) J2 (nI a) (nI t) 1 (by decide) w g2 (rp_move_27_0 I2' J2 w))))
    · refine Or.inr ⟨0, b, I, J, ij_u (ij_u I2 0 0 0) 0 0 1, J2, ?_, ?_, rfl, hR1⟩
      · exact lx_of (by decide) (Nat.le_of_ble_eq_true rfl) (xp_X10_move_0_0 I J (nI a) y (by decide) (lx_needTile_y (nI a) hxc) (xp_X10_move_5_0_t I J (nI a) y (by decide) (lx_needTile_n y (by rw [n3, ← n4]; exact hy))))
      · exact ij_cr_of (Nat.le_of_ble_eq_true rfl) (rp_move_0_0 I2 J2 (nI a) y 1 (rs_isTile_y (d + 2) (ij_u I2 0 0 0) J2 (nI a) rfl hx) (rp_move_10_1 (ij_u I2 0 0 0) J2 (nI a) y 1 (by decide) 0 (rs_isTile_n (d + 2) (ij_u I2 0 0 0) J2 y rfl hy) (rp_move_18_0 _ J2 (nI a) y 0 rfl)))
  · refine Or.inr ⟨0, b, I, J, ij_u (ij_u I2 0 0 0) 0 0 1, J2, ?_, ?_, rfl, hR1⟩
    · exact lx_of (by decide) (Nat.le_of_ble_eq_true rfl) (xp_X10_move_0_0_t I J x y (by decide) (lx_needTile_n x (by rw [n3, ← n4]; exact hx)))
    · exact ij_cr_of (Nat.le_of_ble_eq_true rfl) (rp_move_0_0 I2 J2 x y 0 (rs_isTile_n (d + 2) (ij_u I2 0 0 0) J2 x rfl hx) (rp_move_10_0 _ J2 x y 0 rfl))
