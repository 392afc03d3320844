/-! ===== lN n to 2^64: shifts, and, or, masks, one bit ===== -/
theorem wb_tb (n : Nat) : (lN n).toBitVec = BitVec.ofNat 64 n := rfl
theorem wb_inj {a b : Int64} (h : a.toBitVec = b.toBitVec) : a = b := Int64.toBitVec_inj.mp h
theorem wb_tn {n : Nat} (h : n < 2 ^ 64) : (lN n).toBitVec.toNat = n := by rw [wb_tb, BitVec.toNat_ofNat, Nat.mod_eq_of_lt h]
theorem wb_of (x : Int64) : ∃ n, n < 2 ^ 64 ∧ x = lN n := ⟨x.toBitVec.toNat, x.toBitVec.isLt, wb_inj (by rw [wb_tb]; simp)⟩
theorem wb_of32 (x : Int32) : ∃ n, n < 2 ^ 32 ∧ x = nI n := ⟨x.toBitVec.toNat, x.toBitVec.isLt, Int32.toBitVec_inj.mp (by show _ = BitVec.ofNat 32 _; simp)⟩
theorem wb_c : ∀ k, k < 64 → ((nI k).toInt64 &&& 63) = lN k := by decide +kernel
theorem wb_cu : ∀ k, k < 64 → ((nI k).toInt64.toUInt64 &&& Int64.toUInt64 63) = UInt64.ofNat k := by decide +kernel
theorem wb_sm : ∀ k, k < 64 → (BitVec.ofNat 64 k).smod 64 = BitVec.ofNat 64 k := by decide +kernel
theorem wb_pw {a b : Nat} (h : a ≤ b) : 2 ^ b = 2 ^ a * 2 ^ (b - a) := by rw [← Nat.pow_add]; congr 1; omega
theorem wb_lt2 {a b : Nat} (h : a < b) : 2 ^ a < 2 ^ b := Nat.pow_lt_pow_right (by decide) h
theorem wb_mod (n : Nat) : lN n = lN (n % 2 ^ 64) := wb_inj (by rw [wb_tb, wb_tb]; apply BitVec.eq_of_toNat_eq; rw [BitVec.toNat_ofNat, BitVec.toNat_ofNat, Nat.mod_mod])
theorem wb_shr {n k : Nat} (hn : n < 2 ^ 64) (hk : k < 64) : ((lN n).toUInt64 >>> ((nI k).toInt64.toUInt64 &&& Int64.toUInt64 63)).toInt64 = lN (n / 2 ^ k) := by
  rw [wb_cu k hk]
  apply wb_inj
  apply BitVec.eq_of_toNat_eq
  show ((lN n).toUInt64 >>> UInt64.ofNat k).toNat = (BitVec.ofNat 64 _).toNat
  have h1 : (UInt64.ofNat k).toNat = k := by
    show (BitVec.ofNat 64 k).toNat = k
    rw [BitVec.toNat_ofNat, Nat.mod_eq_of_lt (by omega)]
  have h2 : (lN n).toUInt64.toNat = n := wb_tn hn
  rw [UInt64.toNat_shiftRight, h1, h2, Nat.mod_eq_of_lt hk, Nat.shiftRight_eq_div_pow, BitVec.toNat_ofNat, Nat.mod_eq_of_lt (Nat.lt_of_le_of_lt (Nat.div_le_self _ _) hn)]
theorem wb_shl (n : Nat) {k : Nat} (hk : k < 64) : lN n <<< ((nI k).toInt64 &&& 63) = lN (n * 2 ^ k) := by
  rw [wb_c k hk]
  apply wb_inj
  rw [Int64.toBitVec_shiftLeft, wb_tb, wb_tb, wb_tb, wb_sm k hk]
  apply BitVec.eq_of_toNat_eq
  rw [BitVec.shiftLeft_eq', BitVec.toNat_shiftLeft, BitVec.toNat_ofNat, BitVec.toNat_ofNat, BitVec.toNat_ofNat, Nat.mod_eq_of_lt (show k < 2 ^ 64 by omega), Nat.shiftLeft_eq, Nat.mul_mod, Nat.mod_mod, ← Nat.mul_mod]
theorem wb_and {a b : Nat} (ha : a < 2 ^ 64) (hb : b < 2 ^ 64) : lN a &&& lN b = lN (a &&& b) := by
  apply wb_inj
  rw [Int64.toBitVec_and, wb_tb, wb_tb, wb_tb]
  apply BitVec.eq_of_toNat_eq
  rw [BitVec.toNat_and, BitVec.toNat_ofNat, BitVec.toNat_ofNat, BitVec.toNat_ofNat, Nat.mod_eq_of_lt ha, Nat.mod_eq_of_lt hb, Nat.mod_eq_of_lt (Nat.and_lt_two_pow _ hb)]
theorem wb_or {a b : Nat} (ha : a < 2 ^ 64) (hb : b < 2 ^ 64) : lN a ||| lN b = lN (a ||| b) := by
  apply wb_inj
  rw [Int64.toBitVec_or, wb_tb, wb_tb, wb_tb]
  apply BitVec.eq_of_toNat_eq
  rw [BitVec.toNat_or, BitVec.toNat_ofNat, BitVec.toNat_ofNat, BitVec.toNat_ofNat, Nat.mod_eq_of_lt ha, Nat.mod_eq_of_lt hb, Nat.mod_eq_of_lt (Nat.or_lt_two_pow ha hb)]
theorem wb_mask {n k : Nat} (hn : n < 2 ^ 64) (hk : k < 64) : lN n &&& lN (2 ^ k - 1) = lN (n % 2 ^ k) := by
  rw [wb_and hn (by have := wb_lt2 hk; omega), Nat.and_two_pow_sub_one_eq_mod]
/-! ===== walk: both are led alike ===== -/
theorem lw_sar {n k : Nat} (hn : n < 2 ^ 64) (hk : k ≤ 57) : (lN n >>> ((nI k).toInt64 &&& 63)) &&& 7 = lN (n / 2 ^ k % 8) := by
  rw [wb_c k (by omega)]
  apply wb_inj
  apply BitVec.eq_of_getLsbD_eq
  intro i hi
  have h7 : ((7 : Int64).toBitVec).getLsbD i = decide (i < 3) := by
    have : (7 : Int64).toBitVec = BitVec.ofNat 64 (2 ^ 3 - 1) := rfl
    rw [this, BitVec.getLsbD_ofNat, Nat.testBit_two_pow_sub_one, decide_eq_true hi, Bool.true_and]
  have e8 : n / 2 ^ k % 8 = n / 2 ^ k % 2 ^ 3 := rfl
  rw [Int64.toBitVec_and, Int64.toBitVec_shiftRight, BitVec.getLsbD_and, h7, wb_tb, wb_tb, wb_tb, wb_sm k (by omega), BitVec.sshiftRight_eq', BitVec.toNat_ofNat, Nat.mod_eq_of_lt (show k < 2 ^ 64 by omega), BitVec.getLsbD_sshiftRight, BitVec.getLsbD_ofNat, BitVec.getLsbD_ofNat, e8, Nat.testBit_mod_two_pow, Nat.testBit_div_two_pow]
  by_cases h3 : i < 3
  · rw [if_pos (by omega), decide_eq_true h3, decide_eq_true hi, decide_eq_true (show k + i < 64 by omega), decide_eq_false (show ¬ 64 ≤ i by omega)]
    simp [Nat.add_comm]
  · rw [decide_eq_false h3]
    simp
theorem lw_shr {n k : Nat} (hn : n < 2 ^ 64) (hk : k < 64) : (((lN n).toUInt64 >>> ((nI k).toInt64.toUInt64 &&& Int64.toUInt64 63)).toInt64).toInt32 &&& 7 = nI (n / 2 ^ k % 8) := by
  rw [wb_shr hn hk, lN_i, pk_and (nI (n / 2 ^ k)) 3 (by decide)]
  show nI ((n / 2 ^ k) % 2 ^ 32 % 2 ^ 3) = nI (n / 2 ^ k % 2 ^ 3)
  rw [Nat.mod_mod_of_dvd _ (by decide)]
theorem lw_cmp : ∀ g : Fin 8, ∀ p : Fin 9, 0 ≤ lg_cmp (lN g.1) ((nI p.1).toInt64) ↔ p.1 ≤ g.1 := by decide +kernel
theorem lw_3 (k : Nat) : 3 * nI k = nI (3 * k) := pk_mul 3 k
/-- the j-th figure -/
abbrev lw_d (n j : Nat) : Nat := n / 2 ^ (3 * j) % 8
theorem lw_d8 (n j : Nat) : lw_d n j < 8 := Nat.mod_lt _ (by decide)
section LW
variable {X : ij_R} {d d2 n9 p T n N : Nat} {b : Bool} {I I2 : Nat → Nat → Int32} {J J2 : Nat → Nat → Int64}
theorem lx_figure {j : Nat} (hn : n < 2 ^ 64) (hj : j < 20) : lk_cx1 X (d + 1) 145 [.long (lN n), .int (nI j)] (xk_R b, I, J) (some (.int (nI (lw_d n j)))) (xk_R b, I, J) := by
  have g := xp_X10_figure_0_0 (C := ik_cr xk_P xk_M xk_Y xk_K X d) (b := b) I J (nI j) (lN n)
  rw [lw_3, lw_shr hn (by omega)] at g
  exact ik_cr_of (Nat.le_of_ble_eq_true rfl) g
/-- figures that are sides are passed -/
theorem lx_walk_ok (hn : n < 2 ^ 64) (hN : N ≤ 20) (h8 : I 6 8 = nI p) (hp : p ≤ 8) (hall : ∀ j, j < N → lw_d n j < p) (t : Int32) {o : ix_O} {τ : ij_S} (hg : xk_gx (ik_cr xk_P xk_M xk_Y xk_K X (d + 1)) (lk_cx2 X (d + 1)) 125 n9 (71, [some (.ref 0), none, some (.long (lN n)), none, some (.int (nI N)), some (.int t), some (.int 0)], [], (xk_R b, I, J)) o τ) : ∀ r k, k + r = N → xk_gx (ik_cr xk_P xk_M xk_Y xk_K X (d + 1)) (lk_cx2 X (d + 1)) 125 n9 (28, [some (.ref 0), some (.int t), some (.long (lN n)), none, some (.int (nI N)), some (.int (nI k)), none], [], (xk_R b, I, J)) o τ := by
  intro r
  induction r with
  | zero =>
    intro k hk
    have : k = N := by omega
    subst this
    exact xp_X10_walk_28_0 I J t (nI k) (nI k) (lN n) (nI_le (Nat.le_refl k) (by omega)) hg
  | succ r ih =>
    intro k hk
    have h1 := ih (k + 1) (by omega)
    rw [← nI_1] at h1
    have hs := lx_hasSide (X := X) (d := d) (b := b) (I := I) (J := J) (nI (lw_d n k))
    rw [if_pos ⟨nI_pos (by have := lw_d8 n k; omega), by rw [h8]; exact nI_ge (hall k (by omega)) (by omega)⟩] at hs
    exact xp_X10_walk_28_1 I J t (nI N) (nI k) (lN n) _ (nI_ge (by omega) (by omega)) (lx_figure hn (by omega)) (xp_X10_walk_45_0 I J t (nI N) (nI k) _ (lN n) 1 hs (xp_X10_walk_48_0 I J t (nI N) (nI k) 1 (lN n) (by decide) h1))
theorem lx_walk_bad (hb : 1 ≤ n9) (hn : n < 2 ^ 64) (hN : N ≤ 20) (h8 : I 6 8 = nI p) (hp : p ≤ 8) (t : Int32) : ∀ r k, k + r = N → (∃ j, k ≤ j ∧ j < N ∧ p ≤ lw_d n j) → xk_gx (ik_cr xk_P xk_M xk_Y xk_K X (d + 1)) (lk_cx2 X (d + 1)) 125 n9 (28, [some (.ref 0), some (.int t), some (.long (lN n)), none, some (.int (nI N)), some (.int (nI k)), none], [], (xk_R b, I, J)) (.inr "java/lang/IllegalArgumentException") (xk_R b, I, J) := by
  intro r
  induction r with
  | zero => intro k hk ⟨j, h1, h2, _⟩; omega
  | succ r ih =>
    intro k hk ⟨j, h1, h2, h3⟩
    have hs := lx_hasSide (X := X) (d := d) (b := b) (I := I) (J := J) (nI (lw_d n k))
    have h8' := lw_d8 n k
    by_cases hc : lw_d n k < p
    · rw [if_pos ⟨nI_pos (by omega), by rw [h8]; exact nI_ge hc (by omega)⟩] at hs
      have hne : k ≠ j := fun e => by subst e; omega
      have h1' := ih (k + 1) (by omega) ⟨j, by omega, h2, h3⟩
      rw [← nI_1] at h1'
      exact xp_X10_walk_28_1 I J t (nI N) (nI k) (lN n) _ (nI_ge (by omega) (by omega)) (lx_figure hn (by omega)) (xp_X10_walk_45_0 I J t (nI N) (nI k) _ (lN n) 1 hs (xp_X10_walk_48_0 I J t (nI N) (nI k) 1 (lN n) (by decide) h1'))
    · rw [if_neg (fun q => q.2 (by rw [h8]; exact nI_le (by omega) (by omega)))] at hs
      exact xp_X10_walk_28_1 I J t (nI N) (nI k) (lN n) _ (nI_ge (by omega) (by omega)) (lx_figure hn (by omega)) (xp_X10_walk_45_0 I J t (nI N) (nI k) _ (lN n) 0 hs (xp_X10_walk_48_1 I J t (nI N) (nI k) 0 (lN n) rfl hb))
theorem rs_walk_ok (hn : n < 2 ^ 64) (hN : N ≤ 20) (h0 : I2 0 0 = 0) (h8 : I2 0 1 = nI p) (hp : p ≤ 8) (hall : ∀ j, j < N → lw_d n j < p) (t : Int32) {v : Option Value} {τ : ij_S} (hg : rk_go (rk_call (d + 1)) 48 (96, [some (.ref 0), none, some (.long (lN n)), none, some (.int (nI N)), some (.int t), some (.int 0)], [], (rk_R, I2, J2)) v τ) : ∀ r k, k + r = N → rk_go (rk_call (d + 1)) 48 (43, [some (.ref 0), some (.int t), some (.long (lN n)), none, some (.int (nI N)), some (.int (nI k)), none], [], (rk_R, I2, J2)) v τ := by
  intro r
  induction r with
  | zero =>
    intro k hk
    have : k = N := by omega
    subst this
    exact rp_walk_43_0 I2 J2 t (nI k) (nI k) (lN n) (nI_le (Nat.le_refl k) (by omega)) hg
  | succ r ih =>
    intro k hk
    have h1 := ih (k + 1) (by omega)
    rw [← nI_1] at h1
    have g := rp_walk_43_2 (C := rk_call (d + 1)) (v := v) (τ := τ) I2 J2 t (nI N) (nI k) (lN n) (nI_ge (by omega) (by omega))
    rw [lw_3, lw_sar hn (by omega), h8] at g
    exact g (fun q => absurd ((lw_cmp ⟨_, lw_d8 n k⟩ ⟨p, by omega⟩).mp q) (by have := hall k (by omega); show ¬ p ≤ lw_d n k; omega)) 1 (rs_right d I2 J2 1 2 h0 (by decide)) (rp_walk_79_0 I2 J2 t (nI N) (nI k) 1 (lN n) (by decide) h1)
theorem rs_walk_bad (hn : n < 2 ^ 64) (hN : N ≤ 20) (h0 : I2 0 0 = 0) (h8 : I2 0 1 = nI p) (hp : p ≤ 8) (t : Int32) : ∀ r k, k + r = N → (∃ j, k ≤ j ∧ j < N ∧ p ≤ lw_d n j) → rk_go (rk_call (d + 1)) 48 (43, [some (.ref 0), some (.int t), some (.long (lN n)), none, some (.int (nI N)), some (.int (nI k)), none], [], (rk_R, I2, J2)) (some (.int 0)) (rk_R, ij_u I2 0 0 2, J2) := by
  intro r
  induction r with
  | zero => intro k hk ⟨j, h1, h2, _⟩; omega
  | succ r ih =>
    intro k hk ⟨j, h1, h2, h3⟩
    have h8' := lw_d8 n k
    by_cases hc : lw_d n k < p
    · have hne : k ≠ j := fun e => by subst e; omega
      have h1' := ih (k + 1) (by omega) ⟨j, by omega, h2, h3⟩
      rw [← nI_1] at h1'
      have g := rp_walk_43_2 (C := rk_call (d + 1)) (v := some (.int 0)) (τ := (rk_R, ij_u I2 0 0 2, J2)) I2 J2 t (nI N) (nI k) (lN n) (nI_ge (by omega) (by omega))
      rw [lw_3, lw_sar hn (by omega), h8] at g
      exact g (fun q => absurd ((lw_cmp ⟨_, lw_d8 n k⟩ ⟨p, by omega⟩).mp q) (by show ¬ p ≤ lw_d n k; omega)) 1 (rs_right d I2 J2 1 2 h0 (by decide)) (rp_walk_79_0 I2 J2 t (nI N) (nI k) 1 (lN n) (by decide) h1')
    · have g := rp_walk_43_1 (C := rk_call (d + 1)) (v := some (.int 0)) (τ := (rk_R, ij_u I2 0 0 2, J2)) I2 J2 t (nI N) (nI k) (lN n) (nI_ge (by omega) (by omega))
      rw [lw_3, lw_sar hn (by omega), h8] at g
      exact g ((lw_cmp ⟨_, lw_d8 n k⟩ ⟨p, by omega⟩).mpr (by show p ≤ lw_d n k; omega)) 0 (rs_right d I2 J2 0 2 h0 (by decide)) (rp_walk_79_1 _ J2 t (nI N) (nI k) 0 (lN n) rfl)
/-- the way itself -/
theorem ls_walk (hn : n < 2 ^ 64) (hN : N ≤ 20) (hp : p ≤ 8) (hT : T ≤ 2000) (n1 : I 6 8 = nI p) (n3 : I 6 9 = nI T) (hacr : lr_acr p T (I 9)) (hax : ∀ a s, a < T → s < p → I2 7 (8 * a + s) = I 9 (8 * a + s)) (hall : ∀ j, j < N → lw_d n j < p) : ∀ (r k : Nat) (at_ : Int32), k + r = N → lr_at T at_ → ∃ w, xk_gx (ik_cr xk_P xk_M xk_Y xk_K X (d + 1)) (lk_cx2 X (d + 1)) 125 n9 (71, [some (.ref 0), none, some (.long (lN n)), none, some (.int (nI N)), some (.int at_), some (.int (nI k))], [], (xk_R b, I, J)) (.inl (some (.int w))) (xk_R b, I, J) ∧ rk_go (rk_call d2) 48 (96, [some (.ref 0), none, some (.long (lN n)), none, some (.int (nI N)), some (.int at_), some (.int (nI k))], [], (rk_R, I2, J2)) (some (.int w)) (rk_R, I2, J2) := by
  intro r
  induction r with
  | zero =>
    intro k at_ hk ha
    have : k = N := by omega
    subst this
    have hle : nI k ≤ nI k := nI_le (Nat.le_refl k) (by omega)
    exact ⟨at_, xp_X10_walk_71_0 I J (nI k) at_ (nI k) (lN n) hle, rp_walk_96_0 I2 J2 (nI k) at_ (nI k) (lN n) hle⟩
  | succ r ih =>
    intro k at_ hk ha
    have hge : ¬ nI N ≤ nI k := nI_ge (by omega) (by omega)
    by_cases hm : at_ = -1
    · exact ⟨at_, xp_X10_walk_71_1 I J (nI N) at_ (nI k) (lN n) hge hm, rp_walk_96_1 I2 J2 (nI N) at_ (nI k) (lN n) hge hm⟩
    · obtain ⟨u, hu, rfl⟩ := ha.resolve_left hm
      have hs := hall k (by omega)
      obtain ⟨w, g1, g2⟩ := ih (k + 1) (I 9 (8 * u + lw_d n k)) (by omega) (hacr u _ hu hs)
      rw [← nI_1] at g1 g2
      refine ⟨w, ?_, ?_⟩
      · exact xp_X10_walk_71_2 I J (nI N) (nI u) (nI k) (lN n) _ hge hm (lx_figure hn (by omega)) (xp_X10_walk_96_0 I J (nI N) (nI k) (nI u) _ (lN n) _ (lx_beyond hp hT n1 n3 hu hs) (xp_X10_walk_99_0 I J (nI N) (nI k) _ (lN n) g1))
      · have q := rp_walk_96_2 (C := rk_call d2) (v := some (.int w)) (τ := (rk_R, I2, J2)) I2 J2 (nI N) (nI u) (nI k) (lN n) hge hm
        rw [lw_3, lw_sar hn (by omega), lN_i, lr_8', nI_clamp (by have := lw_d8 n k; omega), hax u _ hu hs] at q
        exact q (vp_in_nI (by have := lw_d8 n k; omega) (by decide)) g2
end LW
theorem lq_walk {X : ij_R} {d : Nat} {R : lk_Rl} (hf : lk_free R) (h : ∀ b I J I2 J2, R b I J I2 J2 → ∃ p T, lr_lead p T I I2) : lk_q_walk X (d + 3) R := by
  intro x row y b I J I2 J2 hR
  obtain ⟨p, T, ⟨n1, n2, n3, n4, hp, hT, -⟩, hacr, hax⟩ := h b I J I2 J2 hR
  obtain ⟨n, hn, rfl⟩ := wb_of row
  have hR0 := hf b I J I2 J2 0 hR
  by_cases hx : ¬ x < 0 ∧ ¬ I2 0 21 ≤ x
  · obtain ⟨hxc, a, ha, rfl⟩ := lr_tile_of hT n3 n4 hx
    by_cases hy : y < 0 ∨ 20 < y
    · refine Or.inr (Or.inl ⟨0, b, I, J, ij_u (ij_u I2 0 0 0) 0 0 2, J2, ?_, ?_, rfl, hf b I J _ J2 2 hR0⟩)
      · refine lx_of (by decide) (Nat.le_of_ble_eq_true rfl) (xp_X10_walk_0_0 I J (nI a) y (lN n) (by decide) (lx_needTile_y (nI a) hxc) ?_)
        by_cases h0 : y < 0
        · exact xp_X10_walk_5_0 I J (nI a) y (lN n) h0 (by decide)
        · exact xp_X10_walk_5_2 I J (nI a) y (lN n) h0 (Int32.not_le.mpr (hy.resolve_left h0)) (by decide)
      · refine ij_cr_of (Nat.le_of_ble_eq_true rfl) (rp_walk_0_0 I2 J2 (nI a) y (lN n) 1 (rs_isTile_y (d + 1) (ij_u I2 0 0 0) J2 (nI a) rfl hx) ?_)
        have hr := rs_right (d + 2) (ij_u I2 0 0 0) J2 0 2 rfl (by decide)
        by_cases h0 : y < 0
        · exact rp_walk_10_1 _ J2 (nI a) y 1 (lN n) (by decide) h0 0 hr (rp_walk_35_1 _ J2 (nI a) y 0 (lN n) rfl)
        · exact rp_walk_10_2 _ J2 (nI a) y 1 (lN n) (by decide) h0 (hy.resolve_left h0) 0 hr (rp_walk_35_1 _ J2 (nI a) y 0 (lN n) rfl)
    · obtain ⟨N, hN, rfl⟩ := nI_of2 (M := 20) (n := 20) (by decide) (fun q => hy (Or.inl q)) (Int32.not_lt.mp (fun q => hy (Or.inr q)))
      have h0 : ¬ nI N < 0 := fun q => hy (Or.inl q)
      have h1 : ¬ (20 : Int32) < nI N := fun q => hy (Or.inr q)
      have hr := rs_right (d + 2) (ij_u I2 0 0 0) J2 1 2 rfl (by decide)
      by_cases hall : ∀ j, j < N → lw_d n j < p
      · obtain ⟨w, g1, g2⟩ := ls_walk (X := X) (d := d + 1) (d2 := d + 3) (n9 := xk_co 125 - xk_co 141) (b := b) (I := I) (I2 := ij_u I2 0 0 0) (J := J) (J2 := J2) hn hN hp hT n1 n3 hacr hax hall N 0 (nI a) (Nat.zero_add N) (Or.inr ⟨a, ha, rfl⟩)
        refine Or.inl ⟨w, b, I, J, ij_u I2 0 0 0, J2, ?_, ?_, rfl, hR0⟩
        · exact lx_of (by decide) (Nat.le_of_ble_eq_true rfl) (xp_X10_walk_0_0 I J (nI a) (nI N) (lN n) (by decide) (lx_needTile_y (nI a) hxc) (xp_X10_walk_5_1 I J (nI a) (nI N) (lN n) h0 (Int32.not_lt.mp h1) (lx_walk_ok hn hN n1 hp hall (nI a) g1 N 0 (Nat.zero_add N))))
        · exact ij_cr_of (Nat.le_of_ble_eq_true rfl) (rp_walk_0_0 I2 J2 (nI a) (nI N) (lN n) 1 (rs_isTile_y (d + 1) (ij_u I2 0 0 0) J2 (nI a) rfl hx) (rp_walk_10_3 _ J2 (nI a) (nI N) 1 (lN n) (by decide) h0 h1 1 hr (rp_walk_35_0 (ij_u I2 0 0 0) J2 (nI a) (nI N) 1 (lN n) (by decide) (rs_walk_ok (d := d + 2) (I2 := ij_u I2 0 0 0) (J2 := J2) hn hN rfl n2 hp hall (nI a) g2 N 0 (Nat.zero_add N)))))
      · have hbad : ∃ j, 0 ≤ j ∧ j < N ∧ p ≤ lw_d n j := Classical.byContradiction (fun q => hall (fun j hj => Nat.not_le.mp (fun q2 => q ⟨j, Nat.zero_le j, hj, q2⟩)))
        refine Or.inr (Or.inl ⟨0, b, I, J, ij_u (ij_u I2 0 0 0) 0 0 2, J2, ?_, ?_, rfl, hf b I J _ J2 2 hR0⟩)
        · exact lx_of (by decide) (Nat.le_of_ble_eq_true rfl) (xp_X10_walk_0_0 I J (nI a) (nI N) (lN n) (by decide) (lx_needTile_y (nI a) hxc) (xp_X10_walk_5_1 I J (nI a) (nI N) (lN n) h0 (Int32.not_lt.mp h1) (lx_walk_bad (by decide) hn hN n1 hp (nI a) N 0 (Nat.zero_add N) hbad)))
        · exact ij_cr_of (Nat.le_of_ble_eq_true rfl) (rp_walk_0_0 I2 J2 (nI a) (nI N) (lN n) 1 (rs_isTile_y (d + 1) (ij_u I2 0 0 0) J2 (nI a) rfl hx) (rp_walk_10_3 _ J2 (nI a) (nI N) 1 (lN n) (by decide) h0 h1 1 hr (rp_walk_35_0 (ij_u I2 0 0 0) J2 (nI a) (nI N) 1 (lN n) (by decide) (rs_walk_bad (d := d + 2) (I2 := ij_u I2 0 0 0) (J2 := J2) hn hN rfl n2 hp (nI a) N 0 (Nat.zero_add N) hbad))))
  · refine Or.inr (Or.inr ⟨0, b, I, J, ij_u (ij_u I2 0 0 0) 0 0 1, J2, ?_, ?_, rfl, hf b I J _ J2 1 hR0⟩)
    · exact lx_of (by decide) (Nat.le_of_ble_eq_true rfl) (xp_X10_walk_0_0_t I J x y (lN n) (by decide) (lx_needTile_n x (by rw [n3, ← n4]; exact hx)))
    · exact ij_cr_of (Nat.le_of_ble_eq_true rfl) (rp_walk_0_0 I2 J2 x y (lN n) 0 (rs_isTile_n (d + 1) (ij_u I2 0 0 0) J2 x rfl hx) (rp_walk_10_0 _ J2 x y 0 (lN n) rfl))
