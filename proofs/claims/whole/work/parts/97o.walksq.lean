/-! ===== walks, home, far: both answer alike ===== -/
def lk_walks (R : lk_Rl) : Prop := ∀ b I J I2 J2, R b I J I2 J2 → ∃ p T M rg, lw_base p T M rg I I2 ∧ lw_tie p T rg b I J ∧ ∀ b' I' J' I2' J2', (∀ p k, ¬ (p = 19 ∧ k = 3) → I' p k = I p k) → (∀ q, q ≠ 20 → q ≠ 21 → J' q = J q) → (∀ p k, ¬ (p = 0 ∧ k = 0) → I2' p k = I2 p k) → (∀ q, q ≠ 27 → q ≠ 28 → J2' q = J2 q) → lw_tie p T rg b' I' J' → R b' I' J' I2' J2'
theorem lw_u0 (I : Nat → Nat → Int32) (v : Int32) : ∀ p k, ¬ (p = 0 ∧ k = 0) → ij_u I 0 0 v p k = I p k := by
  intro p k h
  by_cases e : p = 0
  · subst e
    exact ij_u_other _ _ _ _ (fun e => h ⟨rfl, e⟩)
  · exact congrFun (ij_u_ne e) k
section WQ
variable {X : ij_R} {d p T M : Nat} {b : Bool} {I I2 : Nat → Nat → Int32} {J J2 : Nat → Nat → Int64} {rg : Nat → Nat}
theorem lx_nws_y {n : Nat} (hn : n ≤ 16) : lk_cx2 X (d + 1) 143 [.ref 0, .int (nI n)] (xk_R b, I, J) (.inl none) (xk_R b, I, J) :=
  lx_of (by decide) (Nat.le_of_ble_eq_true rfl) (xp_X10_needWalkSteps_0_1 I J (nI n) (nI_pos (by omega)) (nI_le (b := 16) hn (by decide)))
theorem lx_nws_n {x : Int32} (hx : x < 0 ∨ 16 < x) : lk_cx2 X (d + 1) 143 [.ref 0, .int x] (xk_R b, I, J) (.inr "java/lang/IllegalArgumentException") (xk_R b, I, J) := by
  refine lx_of (by decide) (Nat.le_of_ble_eq_true rfl) ?_
  by_cases h : x < 0
  · exact xp_X10_needWalkSteps_0_0 I J x h (by decide)
  · exact xp_X10_needWalkSteps_0_2 I J x h (Int32.not_le.mpr (hx.resolve_left h)) (by decide)
theorem lw_base_fr {I' I2' : Nat → Nat → Int32} (h : ∀ p k, ¬ (p = 19 ∧ k = 3) → I' p k = I p k) (h2 : ∀ p k, ¬ (p = 0 ∧ k = 0) → I2' p k = I2 p k) (hb : lw_base p T M rg I I2) : lw_base p T M rg I' I2' := by
  have e9 : I' 9 = I 9 := funext (fun k => h 9 k (by omega))
  have e10 : I' 10 = I 10 := funext (fun k => h 10 k (by omega))
  have e7 : I2' 7 = I2 7 := funext (fun k => h2 7 k (by omega))
  have e8 : I2' 8 = I2 8 := funext (fun k => h2 8 k (by omega))
  unfold lw_base
  rw [e9, e10, e7, e8, h 6 8 (by omega), h 6 9 (by omega), h 6 10 (by omega), h2 0 1 (by omega), h2 0 21 (by omega), h2 0 22 (by omega)]
  exact hb
end WQ
theorem lq_walks {X : ij_R} {d : Nat} {R : lk_Rl} (h : lk_walks R) : lk_q_walks X (d + 5) R := by
  intro x y b I J I2 J2 hR
  obtain ⟨p, T, M, rg, hb, ht, hk⟩ := h b I J I2 J2 hR
  have hb' := hb
  obtain ⟨b1, b2, b3, b4, b5, b6, b7, b7', b8, b9, b10, b11, b12, b13, b14⟩ := hb'
  have hR' : ∀ v, R b I J (ij_u (ij_u I2 0 0 0) 0 0 v) J2 := fun v => hk b I J _ J2 (fun _ _ _ => rfl) (fun _ _ _ => rfl) (fun p k h => (lw_u0 _ v p k h).trans (lw_u0 I2 0 p k h)) (fun _ _ _ => rfl) ht
  by_cases hy : ¬ y < 0 ∧ ¬ I2 0 21 ≤ y
  · obtain ⟨hyc, t, htT, rfl⟩ := lr_tile_of b8 b3 b4 hy
    by_cases hx : x < 0 ∨ 16 < x
    · refine Or.inr (Or.inl ⟨0, b, I, J, ij_u (ij_u I2 0 0 0) 0 0 2, J2, ?_, ?_, rfl, hR' 2⟩)
      · exact lx_of (by decide) (Nat.le_of_ble_eq_true rfl) (xp_X10_walks_0_0 I J x (nI t) (by decide) (lx_needTile_y (nI t) hyc) (xp_X10_walks_5_0_t I J x (nI t) (by decide) (lx_nws_n hx)))
      · exact ij_cr_of (Nat.le_of_ble_eq_true rfl) (rp_walks_0_0 I2 J2 x (nI t) 1 (rs_isTile_y (d + 3) (ij_u I2 0 0 0) J2 (nI t) rfl hy) (rp_walks_10_1 _ J2 x (nI t) 1 (by decide) 0 (rs_isLong_n (d := d + 3) hx 2 J2 rfl (by decide)) (rp_walks_19_2 _ J2 x (nI t) 0 rfl)))
    · obtain ⟨n, hn, rfl⟩ := nI_of2 (M := 16) (n := 16) (by decide) (fun q => hx (Or.inl q)) (Int32.not_lt.mp (fun q => hx (Or.inr q)))
      by_cases hM : n ≤ M
      · obtain ⟨b', I', J', g1, g2, g3, g4⟩ := lx_walkTo (X := X) (d := d) hn b I J hb ht
        obtain ⟨J2', k1, k2, k3⟩ := rs_walks0 (d := d + 4) (I := ij_u I2 0 0 0) (ac := I 9) hn J2 b7 b8 b2 b4 b11.1 b12
        have e9 : I' 9 = I 9 := funext (fun k => g3 9 k (by omega))
        refine Or.inl ⟨lN (ww p (I 9) n t), b', I', J', ij_u I2 0 0 0, J2', ?_, ?_, rfl, hk b' I' J' _ J2' g3 g4 (lw_u0 I2 0) k3 (Or.inr ⟨n, hn, g2⟩)⟩
        · have e := lx_endsAt (X := X) (d := d + 2) (b := b') (I := I') J' (t := t) (by omega)
          rw [g2.2.1 t htT, e9] at e
          exact lx_of (by decide) (Nat.le_of_ble_eq_true rfl) (xp_X10_walks_0_0 I J (nI n) (nI t) (by decide) (lx_needTile_y (nI t) hyc) (xp_X10_walks_5_0 I J (nI n) (nI t) (by decide) (lx_nws_y hn) (xp_X10_walks_10_0 I J (nI n) (nI t) _ (by rw [b5]; exact nI_le hM (by omega)) (ik_cr_of (Nat.le_of_ble_eq_true rfl) (xp_X9_endingAt_0_0 I J (nI n) (nI t) g1 (xp_X9_endingAt_5_0 I' J' (nI t) _ e (xp_X9_endingAt_10_0 I' J' _)))) (xp_X10_walks_36_0 I' J' _))))
        · have q := rp_walks_41_0 (C := rk_call (d + 5)) (ij_u I2 0 0 0) J2' (nI t) (vp_in_nI (by omega) (by decide))
          rw [nI_clamp (by omega), k2 t htT] at q
          exact ij_cr_of (Nat.le_of_ble_eq_true rfl) (rp_walks_0_0 I2 J2 (nI n) (nI t) 1 (rs_isTile_y (d + 3) (ij_u I2 0 0 0) J2 (nI t) rfl hy) (rp_walks_10_1 _ J2 (nI n) (nI t) 1 (by decide) 1 (rs_isLong_y (d := d + 3) hn 2 J2 rfl (by decide)) (rp_walks_19_0 (ij_u I2 0 0 0) J2 (nI n) (nI t) 1 (by decide) (by show nI n ≤ I2 0 22; rw [b6]; exact nI_le hM (by omega)) k1 q)))
      · refine Or.inl ⟨-1, b, I, J, ij_u I2 0 0 0, J2, ?_, ?_, rfl, hk b I J _ J2 (fun _ _ _ => rfl) (fun _ _ _ => rfl) (lw_u0 I2 0) (fun _ _ _ => rfl) ht⟩
        · exact lx_of (by decide) (Nat.le_of_ble_eq_true rfl) (xp_X10_walks_0_0 I J (nI n) (nI t) (by decide) (lx_needTile_y (nI t) hyc) (xp_X10_walks_5_0 I J (nI n) (nI t) (by decide) (lx_nws_y hn) (xp_X10_walks_10_1 I J (nI n) (nI t) (by rw [b5]; exact nI_ge (by omega) (by omega)))))
        · exact ij_cr_of (Nat.le_of_ble_eq_true rfl) (rp_walks_0_0 I2 J2 (nI n) (nI t) 1 (rs_isTile_y (d + 3) (ij_u I2 0 0 0) J2 (nI t) rfl hy) (rp_walks_10_1 _ J2 (nI n) (nI t) 1 (by decide) 1 (rs_isLong_y (d := d + 3) hn 2 J2 rfl (by decide)) (rp_walks_19_1 (ij_u I2 0 0 0) J2 (nI n) (nI t) 1 (by decide) (by show ¬ nI n ≤ I2 0 22; rw [b6]; exact nI_ge (by omega) (by omega)))))
  · refine Or.inr (Or.inr ⟨0, b, I, J, ij_u (ij_u I2 0 0 0) 0 0 1, J2, ?_, ?_, rfl, hR' 1⟩)
    · exact lx_of (by decide) (Nat.le_of_ble_eq_true rfl) (xp_X10_walks_0_0_t I J x y (by decide) (lx_needTile_n y (by rw [b3, ← b4]; exact hy)))
    · exact ij_cr_of (Nat.le_of_ble_eq_true rfl) (rp_walks_0_0 I2 J2 x y 0 (rs_isTile_n (d + 3) (ij_u I2 0 0 0) J2 y rfl hy) (rp_walks_10_0 _ J2 x y 0 rfl))
section WH
variable {X : ij_R} {d p T : Nat} {b : Bool} {I : Nat → Nat → Int32} {J : Nat → Nat → Int64} {g : Nat → Nat}
theorem lx_home_21 (hT : T ≤ 2000) (h9 : I 6 9 = nI T) (hJ : ∀ t, t < T → J (wE b) t = lN (g t)) : ∀ (r t : Nat), t + r = T → xk_go (ik_cr xk_P xk_M xk_Y xk_K X (d + 1)) 105 (21, [some (.ref 19), none, some (.long (lN (sm (fun t => g t * g t) t))), none, some (.int (nI t))], [], (xk_R b, I, J)) (some (.long (lN (sm (fun t => g t * g t) T)))) (xk_R b, I, J) := by
  intro r
  induction r with
  | zero =>
    intro t ht
    have : t = T := by omega
    subst this
    exact xp_X9_comingHome_21_0 I J (nI t) _ (by rw [h9]; exact nI_le (Nat.le_refl t) (by omega))
  | succ r ih =>
    intro t ht
    have k := ih (t + 1) (by omega)
    rw [← nI_1] at k
    have e := lx_endsAt (X := X) (d := d) (b := b) (I := I) J (t := t) (by omega)
    rw [hJ t (by omega)] at e
    refine xp_X9_comingHome_21_1 I J (nI t) _ _ (by rw [h9]; exact nI_ge (by omega) (by omega)) e (xp_X9_comingHome_40_0 I J (nI t) _ _ _ e (xp_X9_comingHome_46_0 I J (nI t) _ _ _ ?_))
    rw [lN_mul, lN_add]
    exact k
theorem lx_rings_10 {rg : Nat → Nat} (hT : T ≤ 2000) (h9 : I 6 9 = nI T) (h10 : ∀ t, t < T → I 10 t = nI (rg t) ∧ rg t < 64) (hJ : ∀ t, t < T → J (wE b) t = lN (g t)) : ∀ (r t : Nat), t + r = T → xk_go (ik_cr xk_P xk_M xk_Y xk_K X (d + 1)) 106 (10, [some (.ref 19), none, some (.long (lN (sm (fun t => rg t * g t) t))), none, some (.int (nI t))], [], (xk_R b, I, J)) (some (.long (lN (sm (fun t => rg t * g t) T)))) (xk_R b, I, J) := by
  intro r
  induction r with
  | zero =>
    intro t ht
    have : t = T := by omega
    subst this
    exact xp_X9_ringsTogether_10_0 I J (nI t) _ (by rw [h9]; exact nI_le (Nat.le_refl t) (by omega))
  | succ r ih =>
    intro t ht
    have k := ih (t + 1) (by omega)
    rw [← nI_1] at k
    have e := lx_endsAt (X := X) (d := d) (b := b) (I := I) J (t := t) (by omega)
    rw [hJ t (by omega)] at e
    have e2 := lx_ringOf (X := X) (d := d) (b := b) (I := I) (J := J) (a := t) (by omega)
    rw [(h10 t (by omega)).1] at e2
    refine xp_X9_ringsTogether_10_1 I J (nI t) _ _ (by rw [h9]; exact nI_ge (by omega) (by omega)) e (xp_X9_ringsTogether_29_0 I J (nI t) _ _ _ e2 (xp_X9_ringsTogether_38_0 I J (nI t) _ _ _ ?_))
    rw [nI_l (by have := (h10 t (by omega)).2; omega), lN_mul, lN_add, Nat.mul_comm (g t)]
    exact k
theorem lx_all_5 {n : Nat} (hn : n ≤ 16) (hp : p ≤ 8) (h8 : I 6 8 = nI p) : ∀ (r k : Nat), k + r = n → xk_go (ik_cr xk_P xk_M xk_Y xk_K X d) 107 (5, [some (.ref 19), some (.int (nI n)), some (.long (lN (p ^ k))), none, some (.int (nI k))], [], (xk_R b, I, J)) (some (.long (lN (p ^ n)))) (xk_R b, I, J) := by
  intro r
  induction r with
  | zero =>
    intro k hk
    have : k = n := by omega
    subst this
    exact xp_X9_allWalks_5_0 I J (nI k) (nI k) _ (nI_le (Nat.le_refl k) (by omega))
  | succ r ih =>
    intro k hk
    have g := ih (k + 1) (by omega)
    rw [← nI_1] at g
    refine xp_X9_allWalks_5_1 I J (nI n) (nI k) _ (nI_ge (by omega) (by omega)) ?_
    rw [h8, nI_l (by omega), lN_mul]
    exact g
end WH
theorem lq_home {X : ij_R} {d : Nat} {R : lk_Rl} (h : lk_walks R) : lk_q_home X (d + 5) R := by
  intro x b I J I2 J2 hR
  obtain ⟨p, T, M, rg, hb, ht, hk⟩ := h b I J I2 J2 hR
  have hb' := hb
  obtain ⟨b1, b2, b3, b4, b5, b6, b7, b7', b8, b9, b10, b11, b12, b13, b14⟩ := hb'
  by_cases hx : x < 0 ∨ 16 < x
  · refine Or.inr ⟨0, b, I, J, ij_u (ij_u I2 0 0 0) 0 0 1, J2, ?_, ?_, rfl, hk b I J _ J2 (fun _ _ _ => rfl) (fun _ _ _ => rfl) (fun p k h => (lw_u0 _ 1 p k h).trans (lw_u0 I2 0 p k h)) (fun _ _ _ => rfl) ht⟩
    · exact lx_of (by decide) (Nat.le_of_ble_eq_true rfl) (xp_X10_home_0_0_t I J x (by decide) (lx_nws_n hx))
    · exact ij_cr_of (Nat.le_of_ble_eq_true rfl) (rp_home_0_0 I2 J2 x 0 (rs_isLong_n (d := d + 3) (I := ij_u I2 0 0 0) hx 1 J2 rfl (by decide)) (rp_home_11_2 _ J2 x 0 rfl))
  · obtain ⟨n, hn, rfl⟩ := nI_of2 (M := 16) (n := 16) (by decide) (fun q => hx (Or.inl q)) (Int32.not_lt.mp (fun q => hx (Or.inr q)))
    have e2M : 2 * nI M = nI (2 * M) := pk_mul 2 M
    by_cases hM : n ≤ 2 * M
    · obtain ⟨J2', k1, k2, k3⟩ := rs_walks0 (d := d + 4) (I := ij_u I2 0 0 0) (ac := I 9) hn J2 b7 b8 b2 b4 b11.1 b12
      have href : ∀ w, w = ww p (I 9) n 0 → lk_cr1 (d + 6) 45 [.ref 0, .int (nI n)] (rk_R, I2, J2) (some (.long (lN w))) (rk_R, ij_u I2 0 0 0, J2') := fun w hw => by
        have q := rp_home_35_0 (C := rk_call (d + 5)) (ij_u I2 0 0 0) J2' (vp_in_nI (n := 0) (by decide) (by decide))
        rw [show (0 : Int32).toNatClampNeg = 0 from rfl, k2 0 b9, ← hw] at q
        exact ij_cr_of (Nat.le_of_ble_eq_true rfl) (rp_home_0_0 I2 J2 (nI n) 1 (rs_isLong_y (d := d + 3) (I := ij_u I2 0 0 0) hn 1 J2 rfl (by decide)) (rp_home_11_0 (ij_u I2 0 0 0) J2 (nI n) 1 (by decide) (by show nI n ≤ 2 * I2 0 22; rw [b6, e2M]; exact nI_le hM (by omega)) k1 q))
      have hMx : nI n ≤ 2 * I 6 10 := by rw [b5, e2M]; exact nI_le hM (by omega)
      have e1 : nI n &&& 1 = nI (n % 2) := pk_andN (n := n) (by omega) (m := 1) 1 (by decide)
      by_cases ho : n % 2 = 1
      · refine Or.inl ⟨lN 0, b, I, J, ij_u I2 0 0 0, J2', ?_, href 0 ?_, rfl, hk b I J _ J2' (fun _ _ _ => rfl) (fun _ _ _ => rfl) (lw_u0 I2 0) k3 ht⟩
        · exact lx_of (by decide) (Nat.le_of_ble_eq_true rfl) (xp_X10_home_0_0 I J (nI n) (by decide) (lx_nws_y hn) (xp_X10_home_5_0 I J (nI n) _ hMx (ik_cr_of (Nat.le_of_ble_eq_true rfl) (xp_X9_comingHome_0_1 I J (nI n) (by rw [e1, ho]; rfl))) (xp_X10_home_32_0 I J _)))
        · exact (Classical.byContradiction (fun hne => by
            have := (ww_rg b8 b11 b14 n 0 b9 hne).2
            rw [b14.1] at this
            omega) : ww p (I 9) n 0 = 0).symm
      · obtain ⟨b', I', J', g1, g2, g3, g4⟩ := lx_walkTo (X := X) (d := d) (n := n / 2) (by omega) b I J hb ht
        have e9 : I' 9 = I 9 := funext (fun k => g3 9 k (by omega))
        refine Or.inl ⟨lN (sm (fun t => ww p (I 9) (n / 2) t * ww p (I 9) (n / 2) t) T), b', I', J', ij_u I2 0 0 0, J2', ?_, href _ ?_, rfl, hk b' I' J' _ J2' g3 g4 (lw_u0 I2 0) k3 (Or.inr ⟨n / 2, by omega, g2⟩)⟩
        · have hl := lx_home_21 (X := X) (d := d + 2) (b := b') (I := I') (J := J') (g := ww p (I 9) (n / 2)) b8 ((g3 6 9 (by omega)).trans b3) (fun t ht => by rw [g2.2.1 t ht, e9]) T 0 (Nat.zero_add T)
          have hq := xp_X9_comingHome_0_0 (C := ik_cr xk_P xk_M xk_Y xk_K X (d + 3)) (b := b) (v := some (.long (lN (sm (fun t => ww p (I 9) (n / 2) t * ww p (I 9) (n / 2) t) T)))) (τ := (xk_R b', I', J')) I J (nI n) (b' := b') (I' := I') (J' := J') (by rw [e1, show n % 2 = 0 by omega]; decide) (by decide)
          rw [show nI n / 2 = nI (n / 2) from pk_div (a := n) (d := 2) (by omega) (by decide) (by decide)] at hq
          exact lx_of (by decide) (Nat.le_of_ble_eq_true rfl) (xp_X10_home_0_0 I J (nI n) (by decide) (lx_nws_y hn) (xp_X10_home_5_0 I J (nI n) _ hMx (ik_cr_of (Nat.le_of_ble_eq_true rfl) (hq g1 (xp_X9_comingHome_16_0 I' J' hl))) (xp_X10_home_32_0 I' J' _)))
        · have := ww_home b8 b9 b11 (n / 2)
          rw [show n / 2 + n / 2 = n by omega] at this
          exact this.symm
    · refine Or.inl ⟨-1, b, I, J, ij_u I2 0 0 0, J2, ?_, ?_, rfl, hk b I J _ J2 (fun _ _ _ => rfl) (fun _ _ _ => rfl) (lw_u0 I2 0) (fun _ _ _ => rfl) ht⟩
      · exact lx_of (by decide) (Nat.le_of_ble_eq_true rfl) (xp_X10_home_0_0 I J (nI n) (by decide) (lx_nws_y hn) (xp_X10_home_5_1 I J (nI n) (by rw [b5, e2M]; exact nI_ge (by omega) (by omega))))
      · exact ij_cr_of (Nat.le_of_ble_eq_true rfl) (rp_home_0_0 I2 J2 (nI n) 1 (rs_isLong_y (d := d + 3) (I := ij_u I2 0 0 0) hn 1 J2 rfl (by decide)) (rp_home_11_1 (ij_u I2 0 0 0) J2 (nI n) 1 (by decide) (by show ¬ nI n ≤ 2 * I2 0 22; rw [b6, e2M]; exact nI_ge (by omega) (by omega))))
