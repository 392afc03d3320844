/-! ===== board: is it one? ===== -/
def lb_sum (cs : Nat → Nat) : Nat → Nat
  | 0 => 0
  | j + 1 => lb_sum cs j + (if cs j = 0 then 0 else 2520 / cs j)
theorem lb_sum_le (cs : Nat → Nat) : ∀ j, lb_sum cs j ≤ 2520 * j := by
  intro j
  induction j with
  | zero => exact Nat.le_refl _
  | succ j ih =>
    show lb_sum cs j + _ ≤ _
    by_cases e : cs j = 0
    · rw [if_pos e]; omega
    · rw [if_neg e]
      have := Nat.div_le_self 2520 (cs j)
      omega
section LB6
variable {X : ij_R} {d c : Nat} {b : Bool} {I I2 : Nat → Nat → Int32} {J J2 : Nat → Nat → Int64} {cs : Nat → Nat}
theorem lx_far_4 {C : ij_R} (hc0 : 2 ≤ c) (hc : c ≤ 8) (h3 : I 3 3 = nI c) (h4 : ∀ j, j < c → I 4 j = nI (cs j) ∧ cs j < 10) : ∀ (r j : Nat), j + r = c → xk_go C 58 (4, [some (.ref 3), some (.int (nI (lb_sum cs j))), some (.int (nI j)), none], [], (xk_R b, I, J)) (some (.int (if lb_sum cs c < 2520 * (c - 2) then 1 else 0))) (xk_R b, I, J) := by
  intro r
  induction r with
  | zero =>
    intro j hj
    have : j = c := by omega
    subst this
    have hle := lb_sum_le cs j
    have e : (2520 : Int32) * (I 3 3 - 2) = nI (2520 * (j - 2)) := by
      rw [h3, show (2 : Int32) = nI 2 from rfl, pk_sub hc0, show (2520 : Int32) = nI 2520 from rfl, pk_mul]
    by_cases q : lb_sum cs j < 2520 * (j - 2)
    · rw [if_pos q]
      exact xp_X3_isFar_4_1 I J _ _ (by rw [h3]; exact nI_le (Nat.le_refl j) (by omega)) (by rw [e]; exact nI_ge q (by omega))
    · rw [if_neg q]
      exact xp_X3_isFar_4_0 I J _ _ (by rw [h3]; exact nI_le (Nat.le_refl j) (by omega)) (by rw [e]; exact nI_le (Nat.not_lt.mp q) (by omega))
  | succ r ih =>
    intro j hj
    have k := ih (j + 1) (by omega)
    have hge : ¬ I 3 3 ≤ nI j := by rw [h3]; exact nI_ge (by omega) (by omega)
    have h8 : ¬ (8 : Int32) ≤ nI j := nI_ge (b := 8) (by omega) (by decide)
    have cl : (nI j).toNatClampNeg = j := nI_clamp (by omega)
    obtain ⟨e4, l4⟩ := h4 j (by omega)
    by_cases e : cs j = 0
    · rw [show lb_sum cs (j + 1) = lb_sum cs j by show _ + (if _ then _ else _) = _; rw [if_pos e]; rfl, ← nI_1] at k
      exact xp_X3_isFar_4_4 I J _ _ hge (by decide) h8 (vp_in_nI (by omega) (by decide)) (by rw [cl, e4, e]; rfl) k
    · have n0 : ¬ I 4 j = 0 := by rw [e4]; exact nI_ne0 (by omega) (by omega)
      have q := xp_X3_isFar_4_5 (C := C) (b := b) (v := some (.int (if lb_sum cs c < 2520 * (c - 2) then 1 else 0))) (τ := (xk_R b, I, J)) I J (nI (lb_sum cs j)) (nI j) hge (by decide) h8 (vp_in_nI (by omega) (by decide)) (by rw [cl]; exact n0) (by rw [cl]; exact n0)
      rw [cl, e4, show (2520 : Int32) = nI 2520 from rfl, pk_div (by decide) (by omega) (by omega), show ∀ a c : Nat, nI a + nI c = nI (a + c) from fun a c => (Int32.ofNat_add a c).symm, nI_1] at q
      refine q ?_
      rw [show lb_sum cs (j + 1) = lb_sum cs j + 2520 / cs j by show _ + (if _ then _ else _) = _; rw [if_neg e]] at k
      exact k
theorem lx_far (hc0 : 2 ≤ c) (hc : c ≤ 8) (h3 : I 3 3 = nI c) (h4 : ∀ j, j < c → I 4 j = nI (cs j) ∧ cs j < 10) : lk_cx1 X (d + 1) 58 [.ref 3] (xk_R b, I, J) (some (.int (if lb_sum cs c < 2520 * (c - 2) then 1 else 0))) (xk_R b, I, J) :=
  ik_cr_of (Nat.le_of_ble_eq_true rfl) (xp_X3_isFar_0_0 I J (lx_far_4 hc0 hc h3 h4 c 0 (Nat.zero_add c)))
theorem rs_far_4 {C : ij_R} (hc0 : 2 ≤ c) (hc : c ≤ 8) (h3 : I2 0 17 = nI c) (h4 : ∀ j, j < c → I2 5 j = nI (cs j) ∧ cs j < 10) : ∀ (r j : Nat), j + r = c → rk_go C 17 (4, [some (.ref 0), some (.int (nI (lb_sum cs j))), some (.int (nI j))], [], (rk_R, I2, J2)) (some (.int (if lb_sum cs c < 2520 * (c - 2) then 1 else 0))) (rk_R, I2, J2) := by
  intro r
  induction r with
  | zero =>
    intro j hj
    have : j = c := by omega
    subst this
    have hle := lb_sum_le cs j
    have e : (2520 : Int32) * (I2 0 17 - 2) = nI (2520 * (j - 2)) := by
      rw [h3, show (2 : Int32) = nI 2 from rfl, pk_sub hc0, show (2520 : Int32) = nI 2520 from rfl, pk_mul]
    by_cases q : lb_sum cs j < 2520 * (j - 2)
    · rw [if_pos q]
      exact rp_isBoard_4_1 I2 J2 _ _ (by rw [h3]; exact nI_le (Nat.le_refl j) (by omega)) (by rw [e]; exact nI_ge q (by omega))
    · rw [if_neg q]
      exact rp_isBoard_4_0 I2 J2 _ _ (by rw [h3]; exact nI_le (Nat.le_refl j) (by omega)) (by rw [e]; exact nI_le (Nat.not_lt.mp q) (by omega))
  | succ r ih =>
    intro j hj
    have k := ih (j + 1) (by omega)
    have hge : ¬ I2 0 17 ≤ nI j := by rw [h3]; exact nI_ge (by omega) (by omega)
    have cl : (nI j).toNatClampNeg = j := nI_clamp (by omega)
    obtain ⟨e4, l4⟩ := h4 j (by omega)
    by_cases e : cs j = 0
    · rw [show lb_sum cs (j + 1) = lb_sum cs j by show _ + (if _ then _ else _) = _; rw [if_pos e]; rfl, ← nI_1] at k
      have q := rp_isBoard_4_3 (C := C) (v := some (.int (if lb_sum cs c < 2520 * (c - 2) then 1 else 0))) (τ := (rk_R, I2, J2)) I2 J2 (nI (lb_sum cs j)) (nI j) hge (vp_in_nI (by omega) (by decide)) (by rw [cl, e4, e]; rfl)
      rw [Int32.add_zero] at q
      exact q k
    · have n0 : ¬ I2 5 j = 0 := by rw [e4]; exact nI_ne0 (by omega) (by omega)
      have q := rp_isBoard_4_2 (C := C) (v := some (.int (if lb_sum cs c < 2520 * (c - 2) then 1 else 0))) (τ := (rk_R, I2, J2)) I2 J2 (nI (lb_sum cs j)) (nI j) hge (vp_in_nI (by omega) (by decide)) (by rw [cl]; exact n0) (vp_in_nI (by omega) (by decide)) (by rw [cl]; exact n0)
      rw [cl, e4, show (2520 : Int32) = nI 2520 from rfl, pk_div (by decide) (by omega) (by omega), show ∀ a c : Nat, nI a + nI c = nI (a + c) from fun a c => (Int32.ofNat_add a c).symm, nI_1] at q
      refine q ?_
      rw [show lb_sum cs (j + 1) = lb_sum cs j + 2520 / cs j by show _ + (if _ then _ else _) = _; rw [if_neg e]] at k
      exact k
theorem rs_far (hc0 : 2 ≤ c) (hc : c ≤ 8) (h3 : I2 0 17 = nI c) (h4 : ∀ j, j < c → I2 5 j = nI (cs j) ∧ cs j < 10) : rk_call (d + 1) 17 [.ref 0] (rk_R, I2, J2) (some (.int (if lb_sum cs c < 2520 * (c - 2) then 1 else 0))) (rk_R, I2, J2) :=
  ij_cr_of (Nat.le_of_ble_eq_true rfl) (rp_isBoard_0_0 I2 J2 (rs_far_4 hc0 hc h3 h4 c 0 (Nat.zero_add c)))
/-- the reference wipes what it will read into -/
theorem rs_wipe {C : ij_R} {v : Option Value} {τ : ij_S} : ∀ (r j : Nat) (I2 : Nat → Nat → Int32), j + r = 8 → ∃ I2' : Nat → Nat → Int32, (∀ v τ, rk_go C 18 (64, [some (.ref 0), none, some (.int 8)], [], (rk_R, I2', J2)) v τ → rk_go C 18 (64, [some (.ref 0), none, some (.int (nI j))], [], (rk_R, I2, J2)) v τ) ∧ (∀ i, j ≤ i → i < 8 → I2' 5 i = 0 ∧ I2' 6 i = 0) ∧ (∀ i, i < j → I2' 5 i = I2 5 i ∧ I2' 6 i = I2 6 i) ∧ ∀ p, p ≠ 5 → p ≠ 6 → I2' p = I2 p := by
  intro r
  induction r with
  | zero =>
    intro j I2 hj
    have : j = 8 := by omega
    subst this
    exact ⟨I2, fun _ _ h => h, fun i h1 h2 => by omega, fun _ _ => ⟨rfl, rfl⟩, fun _ _ _ => rfl⟩
  | succ r ih =>
    intro j I2 hj
    obtain ⟨I2', g1, g2, g3, g4⟩ := ih (j + 1) (ij_u (ij_u I2 5 j 0) 6 j 0) (by omega)
    refine ⟨I2', fun v τ hg => ?_, fun i h1 h2 => ?_, fun i hi => ?_, fun p h5 h6 => (g4 p h5 h6).trans ((ij_u_ne h6).trans (ij_u_ne h5))⟩
    · have q := rp_board_64_1 (C := C) (v := v) (τ := τ) I2 J2 (nI j) (nI_ge (b := 8) (by omega) (by decide)) (vp_in_nI (by omega) (by decide)) (vp_in_nI (by omega) (by decide))
      rw [nI_clamp (by omega), nI_1] at q
      exact q (g1 v τ hg)
    · by_cases e : i = j
      · subst e
        have := g3 i (by omega)
        exact ⟨this.1.trans ((congrFun (ij_u_ne (by decide)) i).trans (ij_u_same _ _ _ _)), this.2.trans (ij_u_same _ _ _ _)⟩
      · exact g2 i (by omega) h2
    · have := g3 i (by omega)
      exact ⟨this.1.trans ((congrFun (ij_u_ne (by decide)) i).trans (ij_u_other _ _ _ _ (by omega))), this.2.trans ((ij_u_other _ _ _ _ (by omega)).trans (congrFun (ij_u_ne (by decide)) i))⟩
/-- a fault: nothing more is done -/
theorem rs_tail {C : ij_R} (hC : C 11 [.ref 0] (rk_R, I2, J2) (some (.int 0)) (rk_R, I2, J2)) : rk_go C 18 (150, [some (.ref 0), none, none], [], (rk_R, I2, J2)) (some (.int (I2 0 7))) (rk_R, ij_u I2 4 0 (I2 4 0 + 1), J2) :=
  rp_board_150_0 I2 J2 0 hC (rp_board_154_0 I2 J2 0 rfl 0 hC (rp_board_216_1 I2 J2 0 rfl (vp_in_nI (n := 0) (by decide) (by decide)) (vp_in_nI (n := 0) (by decide) (by decide))))
theorem rs_tail2 (h : ¬ I2 0 7 = 0) : rk_go (rk_call (d + 2)) 18 (176, [some (.ref 0), none, none], [], (rk_R, I2, J2)) (some (.int (I2 0 7))) (rk_R, ij_u I2 4 0 (I2 4 0 + 1), J2) := by
  have hC := rs_isGood_n (d2 := d + 1) (I2 := I2) (J2 := J2) h
  have k : rk_go (rk_call (d + 2)) 18 (193, [some (.ref 0), none, none], [], (rk_R, I2, J2)) (some (.int (I2 0 7))) (rk_R, ij_u I2 4 0 (I2 4 0 + 1), J2) :=
    rp_board_193_0 I2 J2 0 hC (rp_board_197_0 I2 J2 0 rfl 0 hC (rp_board_216_1 I2 J2 0 rfl (vp_in_nI (n := 0) (by decide) (by decide)) (vp_in_nI (n := 0) (by decide) (by decide))))
  by_cases e : I2 0 12 = 3
  · exact rp_board_176_1 I2 J2 e (rs_need_x 1 h) k
  · exact rp_board_176_0 I2 J2 e (rs_need_x 0 h) k
theorem rs_tail1 (h : ¬ I2 0 7 = 0) : rk_go (rk_call (d + 2)) 18 (106, [some (.ref 0), none, none], [], (rk_R, I2, J2)) (some (.int (I2 0 7))) (rk_R, ij_u I2 4 0 (I2 4 0 + 1), J2) := by
  have hC := rs_isGood_n (d2 := d + 1) (I2 := I2) (J2 := J2) h
  refine rp_board_106_0 I2 J2 0 hC ?_
  by_cases e : I2 0 12 = 3
  · exact rp_board_110_1 I2 J2 0 rfl e (rs_need_x 1 h) (rs_tail hC)
  · exact rp_board_110_0 I2 J2 0 rfl e (rs_need_x 0 h) (rs_tail hC)
end LB6
