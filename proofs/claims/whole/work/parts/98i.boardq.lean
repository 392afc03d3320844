/-! ===== board: both answer alike, given how both lay a board ===== -/
/-- tables before a board is read, and as it stands read: what stays -/
def lb_G (I I' : Nat → Nat → Int32) : Prop := ∀ p k, p ≠ 3 → p ≠ 4 → p ≠ 5 → ¬ (p = 1 ∧ k = 1) → ¬ (p = 0 ∧ (k = 7 ∨ k = 8)) → I' p k = I p k
def lb_G2 (I I' : Nat → Nat → Int32) : Prop := ∀ p k, p ≠ 1 → p ≠ 2 → p ≠ 5 → p ≠ 6 → ¬ (p = 0 ∧ (k ≤ 2 ∨ (6 ≤ k ∧ k ≤ 18))) → ¬ (p = 4 ∧ k = 0) → I' p k = I p k
def lk_board (X : ij_R) (d : Nat) (R : lk_Rl) : Prop :=
  (∀ b I J I2 J2, R b I J I2 J2 → (∃ k, k ≤ 200 ∧ lt_tie k I I2) ∧ I 0 8 = I2 4 0) ∧
  lk_free R ∧
  (∀ b I J I2 J2 I' I2' J2', R b I J I2 J2 → lb_G I I' → lb_G2 I2 I2' → I2' 0 1 = I2 0 1 → I2' 0 2 = I2 0 2 → I2' 1 = I2 1 → I2' 2 = I2 2 → lb_fJ J2 J2' → I' 1 1 = 0 → I2' 0 6 = 0 → I' 0 7 = I2' 0 8 → I' 0 8 = I2' 4 0 → R b I' J I2' J2') ∧
  (∀ b I J I2 J2 I' I2' J2' p c, R b I J I2 J2 → lb_G I I' → lb_G2 I2 I2' → lb_fJ J2 J2' → I' 1 1 = 0 → I2' 0 6 = 0 → I2' 0 0 = 0 → I' 0 7 = -1 → I2' 0 8 = -1 → I' 0 8 = I2' 4 0 → lb_nx p c 1 1 2 2 I' I2' → ∃ b3 I3 J3 I4 J4, lk_cx1 X d 139 [.ref 0] (xk_R b, I', J) none (xk_R b3, I3, J3) ∧ rk_call (d + 1) 29 [.ref 0] (rk_R, I2', J2') none (rk_R, I4, J4) ∧ I4 0 0 = 0 ∧ R b3 I3 J3 (ij_u I4 0 67 0) J4)
section LB8
variable {d : Nat} {I : Nat → Nat → Int32} {J : Nat → Nat → Int64}
theorem rs_cp_5_1 (d : Nat) : ∃ I', rk_call (d + 1) 2 [.ref 0, .ref 5, .ref 1] (rk_R, I, J) none (rk_R, I', J) ∧ lk_cp 5 1 8 I I' := by
  obtain ⟨I', g1, g2, -, g4⟩ := rs_cp (rk_call d) J 5 1 8 (by decide) (by decide) (fun I x h => rp_copies_5_1_2_0 I J x (by decide) h) (fun I x τ h1 h2 h3 => rp_copies_5_1_2_1 I J x (by decide) h1 h2 h2 h3) 8 0 I (Nat.zero_add _)
  exact ⟨I', ij_cr_of (Nat.le_of_ble_eq_true rfl) (rp_copies_5_1_0_0 I J g1), fun k hk => g2 k (Nat.zero_le k) hk, g4⟩
theorem rs_cp_6_2 (d : Nat) : ∃ I', rk_call (d + 1) 2 [.ref 0, .ref 6, .ref 2] (rk_R, I, J) none (rk_R, I', J) ∧ lk_cp 6 2 8 I I' := by
  obtain ⟨I', g1, g2, -, g4⟩ := rs_cp (rk_call d) J 6 2 8 (by decide) (by decide) (fun I x h => rp_copies_6_2_2_0 I J x (by decide) h) (fun I x τ h1 h2 h3 => rp_copies_6_2_2_1 I J x (by decide) h1 h2 h2 h3) 8 0 I (Nat.zero_add _)
  exact ⟨I', ij_cr_of (Nat.le_of_ble_eq_true rfl) (rp_copies_6_2_0_0 I J g1), fun k hk => g2 k (Nat.zero_le k) hk, g4⟩
end LB8
theorem lq_board {d : Nat} {R : lk_Rl} (h : lk_board xw_X (d + 5) R) : lk_q_board xw_X (d + 6) R := by
  obtain ⟨h1, h2, h3, h4⟩ := h
  intro x b I J I2 J2 hR
  obtain ⟨⟨m, hm, hT1, hT2, hT3⟩, h84⟩ := h1 b I J I2 J2 hR
  have h00 : ij_u I2 0 0 0 0 0 = 0 := rfl
  by_cases hx : x < 0 ∨ ¬ x ≤ I 1 1
  · refine Or.inr ⟨0, b, I, J, ij_u (ij_u I2 0 0 0) 0 0 1, J2, ?_, ?_, rfl, h2 _ _ _ _ _ _ (h2 _ _ _ _ _ _ hR)⟩
    · refine lx_of (by decide) (Nat.le_of_ble_eq_true rfl) ?_
      by_cases h0 : x < 0
      · exact xp_X10_board_0_0 I J x h0 (by decide)
      · exact xp_X10_board_0_2 I J x h0 (hx.resolve_left h0) (by decide)
    · refine ij_cr_of (Nat.le_of_ble_eq_true rfl) ?_
      have q := rs_right (d := d + 5) (I := ij_u I2 0 0 0) (J := J2) 0 1 rfl (by decide)
      by_cases h0 : x < 0
      · exact rp_board_0_0 I2 J2 x h0 0 q (rp_board_27_1 _ J2 x 0 rfl)
      · exact rp_board_0_1 I2 J2 x h0 (by rw [hT2, ← hT1]; exact Int32.not_le.mp (hx.resolve_left h0)) 0 q (rp_board_27_1 _ J2 x 0 rfl)
  · have hx0 : ¬ x < 0 := fun q => hx (Or.inl q)
    have hxm : x ≤ I 1 1 := Classical.byContradiction (fun q => hx (Or.inr q))
    obtain ⟨n, hn, rfl⟩ := nI_of2 (M := 200) (n := 200) (by decide) hx0 (Int32.le_trans hxm (by rw [hT1]; exact nI_le hm (by decide)))
    -- the reference, up to the first token
    obtain ⟨I2w, w1, w2, -, w4⟩ := rs_wipe (C := rk_call (d + 6)) (v := none) (τ := (rk_R, I2, J2)) (J2 := J2) 8 0 (ij_u (ij_u (ij_u (ij_u (ij_u (ij_u (ij_u I2 0 0 0) 0 6 0) 0 8 (-1)) 0 7 0) 0 10 (nI n)) 0 11 0) 0 18 1) rfl
    have wr : ∀ p k, p ≠ 5 → p ≠ 6 → I2w p k = ij_u (ij_u (ij_u (ij_u (ij_u (ij_u (ij_u I2 0 0 0) 0 6 0) 0 8 (-1)) 0 7 0) 0 10 (nI n)) 0 11 0) 0 18 1 p k := fun p k a1 a2 => congrFun (w4 p a1 a2) k
    have rbeg : ∀ v τ, rk_go (rk_call (d + 6)) 18 (64, [some (.ref 0), none, some (.int 8)], [], (rk_R, I2w, J2)) v τ → lk_cr1 (d + 7) 18 [.ref 0, .int (nI n)] (rk_R, I2, J2) v τ := fun v τ hg =>
      ij_cr_of (Nat.le_of_ble_eq_true rfl) (rp_board_0_2 I2 J2 (nI n) hx0 (Int32.not_lt.mpr (by rw [hT2, ← hT1]; exact hxm)) 1 (rs_right (d := d + 5) (I := ij_u I2 0 0 0) (J := J2) 1 1 rfl (by decide)) (rp_board_27_0 _ J2 (nI n) 1 (by decide) (w1 v τ hg)))
    have hG2w : lb_G2 I2 I2w := fun p k a1 a2 a3 a4 a5 a6 => by
      rw [wr p k a3 a4]
      rw [lb_u_at (by omega), lb_u_at (by omega), lb_u_at (by omega), lb_u_at (by omega), lb_u_at (by omega), lb_u_at (by omega), lb_u_at (by omega)]
    have both := lb_read (d := d) (d2 := d) (b := b) (J := J) (n := n) I I2w J2 hn (wr 0 10 (by decide) (by decide)) (fun j hj => (hT3 j hj).trans (wr 3 j (by decide) (by decide)).symm) (wr 0 11 (by decide) (by decide)) (wr 0 7 (by decide) (by decide)) (wr 0 18 (by decide) (by decide)) (fun j hj => w2 j (Nat.zero_le j) hj)
    rcases both with ⟨f, I', I2', J2', g1, g2, g3, g4, g5, g6⟩ | ⟨p, c, I', I2', J2', g1, g2, g3, g8, g4, g5, g6⟩
    · -- a fault
      have e00 : I2' 0 0 = 0 := (g5 0 0 (by decide) (by decide) (by omega)).trans (wr 0 0 (by decide) (by decide))
      refine Or.inl ⟨nI f, b, ij_u (ij_u (ij_u I' 1 1 0) 0 7 (I' 3 5)) 0 8 (I' 0 8 + 1), J, ij_u I2' 4 0 (I2' 4 0 + 1), J2', ?_, rbeg _ _ g2, e00, ?_⟩
      · exact lx_of (by decide) (Nat.le_of_ble_eq_true rfl) (xp_X10_board_0_1 I J (nI n) (nI f) hx0 hxm g1 (xp_X10_board_31_1 I' J (nI f) (lb_bad_ne g3)))
      · refine h3 b I J I2 J2 _ _ J2' hR ?_ ?_ ?_ ?_ ?_ ?_ g6 rfl ?_ ?_ ?_
        · intro p k a1 a2 a3 a4 a5
          rw [lb_u_at (by omega), lb_u_at (by omega), lb_u_at (by omega)]
          exact g4 p k a1 a2 a3
        · intro p k a1 a2 a3 a4 a5 a6
          rw [lb_u_at (by omega)]
          exact (g5 p k a3 a4 (by omega)).trans (hG2w p k a1 a2 a3 a4 a5 a6)
        · exact (g5 0 1 (by decide) (by decide) (by omega)).trans (wr 0 1 (by decide) (by decide))
        · exact (g5 0 2 (by decide) (by decide) (by omega)).trans (wr 0 2 (by decide) (by decide))
        · exact funext (fun k => (g5 1 k (by decide) (by decide) (by omega)).trans (wr 1 k (by decide) (by decide)))
        · exact funext (fun k => (g5 2 k (by decide) (by decide) (by omega)).trans (wr 2 k (by decide) (by decide)))
        · exact (g5 0 6 (by decide) (by decide) (by omega)).trans (wr 0 6 (by decide) (by decide))
        · exact g3.2.2.symm
        · show I' 0 8 + 1 = I2' 4 0 + 1
          rw [g4 0 8 (by decide) (by decide) (by decide), h84, g5 4 0 (by decide) (by decide) (by omega), wr 4 0 (by decide) (by decide)]
          rfl
    · -- a board
      have e00 : I2' 0 0 = 0 := (g5 0 0 (by decide) (by decide) (by omega)).trans (wr 0 0 (by decide) (by decide))
      obtain ⟨I2a, q1, q2, q3⟩ := rs_cp_5_1 (I := ij_u (ij_u I2' 0 1 (I2' 0 17)) 0 2 (I2' 0 18)) (J := J2') (d + 5)
      obtain ⟨I2b, r1, r2, r3⟩ := rs_cp_6_2 (I := I2a) (J := J2') (d + 5)
      have eb : ∀ p k, p ≠ 1 → p ≠ 2 → I2b p k = ij_u (ij_u I2' 0 1 (I2' 0 17)) 0 2 (I2' 0 18) p k := fun p k a1 a2 => (r3 p k a2).trans (q3 p k a1)
      have hG : lb_G I (ij_u (ij_u I' 1 1 0) 0 7 (-1)) := fun p k a1 a2 a3 a4 a5 => by
        rw [lb_u_at (by omega), lb_u_at (by omega)]
        exact g4 p k a1 a2 a3
      have hG2 : lb_G2 I2 I2b := fun p k a1 a2 a3 a4 a5 a6 => by
        rw [eb p k a1 a2, lb_u_at (by omega), lb_u_at (by omega)]
        exact (g5 p k a3 a4 (by omega)).trans (hG2w p k a1 a2 a3 a4 a5 a6)
      obtain ⟨n1, ⟨n2, n3, n4, n5⟩, ⟨cs, n6, n7⟩, n8, n9⟩ := g3
      have row1 : ∀ j, j < 8 → I2b 1 j = I2' 5 j := fun j hj => (r3 1 j (by decide)).trans (q2 j hj)
      have row2 : ∀ j, j < 8 → I2b 2 j = I2' 6 j := fun j hj => (r2 j hj).trans (q3 6 j (by decide))
      have hnx : lb_nx p c 1 1 2 2 (ij_u (ij_u I' 1 1 0) 0 7 (-1)) I2b := by
        refine ⟨n1, ⟨n2, (eb 0 1 (by decide) (by decide)).trans n3, n4, (eb 0 2 (by decide) (by decide)).trans n5⟩, ⟨cs, fun j hj => ⟨(n6 j hj).1, (row1 j (by omega)).trans (n6 j hj).2.1, (n6 j hj).2.2⟩, n7⟩, fun j hj1 hj2 => (row1 j hj2).trans (n8 j hj1 hj2), fun j hj => ?_⟩
        obtain ⟨v, hv, e1, e2⟩ := n9 j hj
        exact ⟨v, hv, e1, (row2 j (by omega)).trans e2⟩
      obtain ⟨b3, I3, J3, I4, J4, k1, k2, k3, k4⟩ := h4 b I J I2 J2 (ij_u (ij_u I' 1 1 0) 0 7 (-1)) I2b J2' p c hR hG hG2 g6 rfl
        ((eb 0 6 (by decide) (by decide)).trans ((g5 0 6 (by decide) (by decide) (by omega)).trans (wr 0 6 (by decide) (by decide))))
        ((eb 0 0 (by decide) (by decide)).trans e00) rfl
        ((eb 0 8 (by decide) (by decide)).trans (g8.trans (wr 0 8 (by decide) (by decide))))
        (by
          rw [eb 4 0 (by decide) (by decide)]
          show I' 0 8 = I2' 4 0
          rw [g4 0 8 (by decide) (by decide) (by decide), h84, g5 4 0 (by decide) (by decide) (by omega), wr 4 0 (by decide) (by decide)]
          rfl) hnx
      refine Or.inl ⟨0, b3, I3, J3, ij_u I4 0 67 0, J4, ?_, rbeg _ _ (g2 _ _ (rp_board_216_0 I2' J2' 1 (by decide) q1 (rp_board_262_0 I2a J2' r1 (rp_board_274_0 I2b J2' k2 (rp_board_278_0 I4 J4 (Or.inl rfl)))))), k3, k4⟩
      exact lx_of (by decide) (Nat.le_of_ble_eq_true rfl) (xp_X10_board_0_1 I J (nI n) 0 hx0 hxm g1 (xp_X10_board_31_0 I' J 0 rfl k1 (xp_X10_board_76_0 I3 J3)))
