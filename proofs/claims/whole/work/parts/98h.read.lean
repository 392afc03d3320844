/-! ===== board: the whole text, both read it alike ===== -/
/-- a board as both hold it: sides at qs, corners in row rs, colours at qc, turns in row rc of the reference -/
def lb_nx (p c qs rs qc rc : Nat) (I I2 : Nat → Nat → Int32) : Prop := (3 ≤ p ∧ p ≤ 8 ∧ 1 ≤ c ∧ c ≤ 8) ∧ (I 3 3 = nI p ∧ I2 0 qs = nI p ∧ I 3 4 = nI c ∧ I2 0 qc = nI c) ∧ (∃ cs : Nat → Nat, (∀ j, j < p → I 4 j = nI (cs j) ∧ I2 rs j = nI (cs j) ∧ cs j < 10 ∧ cs j ≠ 1) ∧ lb_sum cs p < 2520 * (p - 2)) ∧ (∀ j, p ≤ j → j < 8 → I2 rs j = 0) ∧ lb_row 8 c 5 rc I I2
theorem lb_bad_ne {f : Nat} {I' I2' : Nat → Nat → Int32} (h : lb_bad f I' I2') : ¬ nI f = 0 := by
  rcases h.1 with rfl | rfl | rfl <;> decide
section LB7
variable {d d2 n : Nat} {b : Bool} {J : Nat → Nat → Int64}
theorem lb_read (I I2 : Nat → Nat → Int32) (J2 : Nat → Nat → Int64) (hn : n ≤ 200) (h10 : I2 0 10 = nI n) (hby : ∀ j, j < 200 → I 2 j = I2 3 j) (h11 : I2 0 11 = 0) (h7 : I2 0 7 = 0) (h18 : I2 0 18 = 1) (h56 : ∀ j, j < 8 → I2 5 j = 0 ∧ I2 6 j = 0) :
    (∃ f I' I2' J2', lk_cx1 xw_X (d + 5) 56 [.ref 3, .int (nI n)] (xk_R b, I, J) (some (.int (nI f))) (xk_R b, I', J) ∧ rk_go (rk_call (d2 + 6)) 18 (64, [some (.ref 0), none, some (.int 8)], [], (rk_R, I2, J2)) (some (.int (nI f))) (rk_R, ij_u I2' 4 0 (I2' 4 0 + 1), J2') ∧ lb_bad f I' I2' ∧ lb_F I I' ∧ lb_F2 I2 I2' ∧ lb_fJ J2 J2') ∨
    (∃ p c I' I2' J2', lk_cx1 xw_X (d + 5) 56 [.ref 3, .int (nI n)] (xk_R b, I, J) (some (.int 0)) (xk_R b, I', J) ∧ (∀ v τ, rk_go (rk_call (d2 + 6)) 18 (216, [some (.ref 0), none, none], [.int 1], (rk_R, I2', J2')) v τ → rk_go (rk_call (d2 + 6)) 18 (64, [some (.ref 0), none, some (.int 8)], [], (rk_R, I2, J2)) v τ) ∧ lb_nx p c 17 5 18 6 I' I2' ∧ I2' 0 8 = I2 0 8 ∧ lb_F I I' ∧ lb_F2 I2 I2' ∧ lb_fJ J2 J2') := by
  have hb1 : lb_by n (ij_u (ij_u I 3 6 (nI n)) 3 7 0) I2 := ⟨hn, rfl, h10, hby⟩
  obtain ⟨s, i, k, Ia, I2a, J2a, g1, g2, g3, g4, g5, g6⟩ := lb_take (X := xw_X) (d := d + 1) (d2 := d2 + 4) (b := b) (J := J) (n := n) (i := 0) (ij_u (ij_u I 3 6 (nI n)) 3 7 0) I2 J2 (Nat.zero_le n) hb1 rfl h11
  have hba : lb_by n Ia I2a := lb_by_fr g4 g5 hb1
  have Fa : lb_F I Ia := lb_F_trans (lb_F_u (by omega) (lb_F_u (by omega) (lb_F_refl I))) (lb_F_of g4)
  have Fa2 : lb_F2 I2 I2a := lb_F2_of g5
  have h7a : I2a 0 7 = 0 := (g5 0 7 (by omega)).trans h7
  have h8a : I2a 0 8 = I2 0 8 := g5 0 8 (by omega)
  obtain ⟨⟨t1, t2, t3⟩, ⟨r1, r2, r3, r4⟩, ⟨t4, t5, t6⟩, tn, tw⟩ := id g3
  have xread : ∀ w Iz, xk_go (ik_cr xk_P xk_M xk_Y xk_K xw_X (d + 4)) 56 (20, [some (.ref 3), none, none], [.int (xw_w Ia 0)], (xk_R b, Ia, J)) (some (.int w)) (xk_R b, Iz, J) → lk_cx1 xw_X (d + 5) 56 [.ref 3, .int (nI n)] (xk_R b, I, J) (some (.int w)) (xk_R b, Iz, J) := fun w Iz hg =>
    ik_cr_of (Nat.le_of_ble_eq_true rfl) (xp_X3_read_0_0 I J (nI n) g1 (xp_X3_read_14_0 Ia J (xp_X3_read_17_0 Ia J _ (lx_isWord (w := 0) (by decide)) hg)))
  have rread : ∀ v τ, rk_go (rk_call (d2 + 6)) 18 (99, [some (.ref 0), none, none], [.int (xw_w Ia 0), .ref 0], (rk_R, I2a, J2a)) v τ → rk_go (rk_call (d2 + 6)) 18 (64, [some (.ref 0), none, some (.int 8)], [], (rk_R, I2, J2)) v τ := fun v τ hg =>
    rp_board_64_0 I2 J2 8 (by decide) g2 (rp_board_94_0 I2a J2a _ (lb_corners (d2 := d2 + 4) hn g3) hg)
  by_cases hw : xw_w Ia 0 = 0
  · -- it isn't the word
    have h7b : ¬ ij_u (ij_u (ij_u I2a 0 7 1) 0 8 (I2a 0 13)) 0 17 0 0 7 = 0 := by show ¬ (1 : Int32) = 0; decide
    refine Or.inl ⟨1, Ia, ij_u (ij_u (ij_u I2a 0 7 1) 0 8 (I2a 0 13)) 0 17 0, J2a, xread _ _ (xp_X3_read_20_1 Ia J _ hw), rread _ _ ?_, ⟨Or.inl rfl, rfl, r1.trans t1.symm⟩, Fa, lb_F2_u (by omega) (lb_F2_u (by omega) (lb_F2_u (by omega) Fa2)), g6⟩
    rw [hw]
    exact rp_board_99_0 I2a J2a 0 (rs_need_n (d2 := d2 + 4) h7a) (rp_board_102_0 _ J2a (ij_cr_of (Nat.le_of_ble_eq_true rfl) (rp_readsCorners_0_0 _ J2a (rp_readsCorners_5_0 _ J2a 0 (rs_isGood_n (d2 := d2 + 4) h7b) (rp_readsCorners_9_0 _ J2a 0 rfl)))) (rs_tail1 (d := d2 + 4) h7b))
  -- the corners
  have hbb : lb_by n (ij_u Ia 3 3 0) I2a := hba
  obtain ⟨s2, i2, k2, Ib, I2b, J2b, m1, m2, m3, m4, m5, m6⟩ := lb_take (X := xw_X) (d := d) (d2 := d2 + 3) (b := b) (J := J) (n := n) (i := i) (ij_u Ia 3 3 0) I2a J2a t5 hbb t2 r2
  have Fb : lb_F I Ib := lb_F_trans (lb_F_u (by omega) Fa) (lb_F_of m4)
  have Fb2 : lb_F2 I2 I2b := lb_F2_trans Fa2 (lb_F2_of m5)
  have Fb2' : lb_F2 I2 (ij_u I2b 0 17 0) := lb_F2_u (by omega) Fb2
  have h7b : I2b 0 7 = 0 := (m5 0 7 (by omega)).trans h7a
  have h8b : I2b 0 8 = I2 0 8 := (m5 0 8 (by omega)).trans h8a
  have hbc0 : lb_by n Ib (ij_u I2b 0 17 0) := (show lb_by n Ib I2b from lb_by_fr m4 m5 hbb)
  have htc0 : lb_tk n Ib (ij_u I2b 0 17 0) J2b s2 i2 k2 := m3
  have step := lb_cl (X := xw_X) (d := d) (d2 := d2 + 3) (n := n) (b := b) (J := J) 8 0 Ib (ij_u I2b 0 17 0) J2b s2 i2 k2 rfl hbc0 htc0 (m4 3 3 (by omega)) rfl h7b (fun j hj => absurd hj (Nat.not_lt_zero j)) (fun j hj => absurd hj (Nat.not_lt_zero j))
  have xcor : ∀ w Iz, xk_go (ik_cr xk_P xk_M xk_Y xk_K xw_X (d + 3)) 57 (9, [some (.ref 3)], [], (xk_R b, Ib, J)) (some (.int w)) (xk_R b, Iz, J) → lk_cx1 xw_X (d + 4) 57 [.ref 3] (xk_R b, Ia, J) (some (.int w)) (xk_R b, Iz, J) := fun w Iz hg =>
    ik_cr_of (Nat.le_of_ble_eq_true rfl) (xp_X3_readCorners_0_0 Ia J m1 hg)
  have rcor : ∀ v τ I2z J2z, rk_go (rk_call (d2 + 5)) 15 (5, [some (.ref 0)], [], (rk_R, ij_u I2b 0 17 0, J2b)) none (rk_R, I2z, J2z) → rk_go (rk_call (d2 + 6)) 18 (106, [some (.ref 0), none, none], [], (rk_R, I2z, J2z)) v τ → rk_go (rk_call (d2 + 6)) 18 (64, [some (.ref 0), none, some (.int 8)], [], (rk_R, I2, J2)) v τ := fun v τ I2z J2z h1 hg =>
    rread v τ (rp_board_99_0 I2a J2a _ (rs_need_y (d2 := d2 + 4) hw h7a m2) (rp_board_102_0 I2b J2b (ij_cr_of (Nat.le_of_ble_eq_true rfl) (rp_readsCorners_0_0 I2b J2b h1)) hg))
  have xbad : ∀ f Iz, ¬ nI f = 0 → xk_go (ik_cr xk_P xk_M xk_Y xk_K xw_X (d + 3)) 57 (9, [some (.ref 3)], [], (xk_R b, Ib, J)) (some (.int (nI f))) (xk_R b, Iz, J) → lk_cx1 xw_X (d + 5) 56 [.ref 3, .int (nI n)] (xk_R b, I, J) (some (.int (nI f))) (xk_R b, Iz, J) := fun f Iz h0 hg =>
    xread _ _ (xp_X3_read_20_0 Ia J _ _ hw (xcor _ _ hg) (xp_X3_read_29_1 Iz J _ h0))
  rcases step with ⟨f, Ic, I2c, J2c, z1, z2, z3, z4, z5, z6⟩ | ⟨c, s3, i3, k3, Ic, I2c, J2c, z1, z2, ⟨hc3, hc8, hk3, -⟩, hbc, htc, z3c, z17, z7, zrow, zno, zrest, z4, z5, z6, z18, z6row, z8c⟩
  · refine Or.inl ⟨f, Ic, I2c, J2c, xbad f Ic (lb_bad_ne z3) z1, rcor _ _ I2c J2c z2 ?_, z3, lb_F_trans Fb z4, lb_F2_trans Fb2' z5, lb_fJ_trans g6 (lb_fJ_trans m6 z6)⟩
    have q := rs_tail1 (d := d2 + 4) (I2 := I2c) (J2 := J2c) (by rw [z3.2.1]; exact lb_bad_ne z3)
    rw [z3.2.1] at q
    exact q
  have Fc : lb_F I Ic := lb_F_trans Fb z4
  have Fc2 : lb_F2 I2 I2c := lb_F2_trans Fb2' z5
  have fJc : lb_fJ J2 J2c := lb_fJ_trans g6 (lb_fJ_trans m6 z6)
  obtain ⟨⟨u1, u2, u3⟩, ⟨v1, v2, v3, v4⟩, ⟨u4, u5, u6⟩, un, uw⟩ := id htc
  have hcs : ∀ j, j < c → Ic 4 j = nI ((Ic 4 j).toNatClampNeg) ∧ I2c 5 j = nI ((Ic 4 j).toNatClampNeg) ∧ (Ic 4 j).toNatClampNeg < 10 := fun j hj => by
    obtain ⟨v, hv, e1, e2⟩ := zrow j hj
    rw [e1, e2, nI_clamp (by omega)]
    exact ⟨rfl, rfl, hv⟩
  have h41 : ∀ j, j < c → Ic 4 j = nI ((Ic 4 j).toNatClampNeg) ∧ (Ic 4 j).toNatClampNeg < 10 := fun j hj => ⟨(hcs j hj).1, (hcs j hj).2.2⟩
  have h51 : ∀ j, j < c → I2c 5 j = nI ((Ic 4 j).toNatClampNeg) ∧ (Ic 4 j).toNatClampNeg < 10 := fun j hj => (hcs j hj).2
  have h8c : I2c 0 8 = I2 0 8 := z8c.trans h8b
  by_cases hk : k3 = 3
  · have e8 : Ic 3 8 = 3 := by rw [u3, hk]; rfl
    have e12 : I2c 0 12 = 3 := by rw [v3, hk]; rfl
    have n2 : ¬ Ic 3 8 = 2 := by rw [e8]; decide
    have xf := lx_far (X := xw_X) (d := d + 2) (b := b) (J := J) (I := Ic) (c := c) (cs := fun j => (Ic 4 j).toNatClampNeg) (by omega) hc8 z3c h41
    have rf := rs_far (d := d2 + 5) (J2 := J2c) (I2 := I2c) (c := c) (cs := fun j => (Ic 4 j).toNatClampNeg) (by omega) hc8 z17 h51
    by_cases hfar : lb_sum (fun j => (Ic 4 j).toNatClampNeg) c < 2520 * (c - 2)
    · rw [if_pos hfar] at xf rf
      have x57 : lk_cx1 xw_X (d + 4) 57 [.ref 3] (xk_R b, Ia, J) (some (.int 0)) (xk_R b, Ic, J) := xcor 0 Ic (z1 _ _ (xp_X3_readCorners_9_1 Ic J 1 n2 e8 (by rw [z3c]; exact nI_le (a := 3) hc3 (by omega)) xf (xp_X3_readCorners_109_1 Ic J 1 (by decide))))
      obtain ⟨s4, i4, k4, Id, I2d, J2d, a1, a2, a3, a4, a5, a6⟩ := lb_take (X := xw_X) (d := d + 1) (d2 := d2 + 3) (b := b) (J := J) (n := n) (i := i3) Ic I2c J2c u5 hbc u2 v2
      have hbd : lb_by n Id I2d := lb_by_fr a4 a5 hbc
      have Fd : lb_F I Id := lb_F_trans Fc (lb_F_of a4)
      have Fd2 : lb_F2 I2 I2d := lb_F2_trans Fc2 (lb_F2_of a5)
      have fJd : lb_fJ J2 J2d := lb_fJ_trans fJc a6
      have h7d : I2d 0 7 = 0 := (a5 0 7 (by omega)).trans z7
      obtain ⟨⟨b1, b2, b3⟩, ⟨c1, c2, c3, c4⟩, ⟨b4, b5, b6⟩, bn, bw⟩ := id a3
      have xr : ∀ w Iz, xk_go (ik_cr xk_P xk_M xk_Y xk_K xw_X (d + 4)) 56 (40, [some (.ref 3), none, none], [], (xk_R b, Id, J)) (some (.int w)) (xk_R b, Iz, J) → lk_cx1 xw_X (d + 5) 56 [.ref 3, .int (nI n)] (xk_R b, I, J) (some (.int w)) (xk_R b, Iz, J) := fun w Iz hg =>
        xread w Iz (xp_X3_read_20_0 Ia J _ 0 hw x57 (xp_X3_read_29_0 Ic J 0 rfl a1 hg))
      have rr : ∀ v τ, rk_go (rk_call (d2 + 6)) 18 (154, [some (.ref 0), none, none], [.int 1], (rk_R, I2d, J2d)) v τ → rk_go (rk_call (d2 + 6)) 18 (64, [some (.ref 0), none, some (.int 8)], [], (rk_R, I2, J2)) v τ := fun v τ hg =>
        rcor v τ I2c J2c z2 (rp_board_106_0 I2c J2c 1 (rs_isGood_y (d2 := d2 + 5) z7) (rp_board_110_4 I2c J2c 1 (by decide) e12 1 rf (rp_board_125_1 I2c J2c 1 (by decide) e12 (rs_need_y (d2 := d2 + 4) (x := 1) (by decide) z7 a2) (rp_board_150_0 I2d J2d 1 (rs_isGood_y (d2 := d2 + 5) h7d) hg))))
      -- corners stay from here on
      have nx : ∀ cc Iz I2z, lb_kc Ic I2c Iz I2z → 1 ≤ cc → cc ≤ 8 → Iz 3 4 = nI cc → I2z 0 18 = nI cc → lb_row 8 cc 5 6 Iz I2z → lb_nx c cc 17 5 18 6 Iz I2z := fun cc Iz I2z hkc h1 h2 h3 h4 h5 => by
        obtain ⟨k1, k2, k3, k4, -⟩ := hkc
        refine ⟨⟨hc3, hc8, h1, h2⟩, ⟨k2.trans z3c, k4.trans z17, h3, h4⟩, ⟨fun j => (Ic 4 j).toNatClampNeg, fun j hj => ⟨(congrFun k1 j).trans (hcs j hj).1, (congrFun k3 j).trans (hcs j hj).2.1, (hcs j hj).2.2, fun e => zno j hj ((hcs j hj).1.trans (congrArg nI e))⟩, hfar⟩, fun j hj1 hj2 => ?_, h5⟩
        rw [congrFun k3 j, zrest j hj1]
        have q1 : ij_u I2b 0 17 0 5 j = I2b 5 j := rfl
        rw [q1, m5 5 j (by omega), g5 5 j (by omega)]
        exact (h56 j hj2).1
      have kcd : lb_kc Ic I2c Id I2d := ⟨funext (fun j => a4 4 j (by omega)), a4 3 3 (by omega), funext (fun j => a5 5 j (by omega)), a5 0 17 (by omega), a5 0 8 (by omega)⟩
      by_cases hk4 : k4 = 0
      · -- no ant is told
        have x40 := xp_X3_read_40_1 (C := ik_cr xk_P xk_M xk_Y xk_K xw_X (d + 4)) (v := some (.int 0)) (τ := (xk_R b, ij_u (ij_u Id 3 4 1) 5 0 0, J)) (b := b) (b' := b) (J' := J) (I' := ij_u (ij_u Id 3 4 1) 5 0 0) Id J 0 (by rw [b3, hk4]; rfl) (ik_cr_of (Nat.le_of_ble_eq_true rfl) (xp_X3_antWithoutText_0_0 Id J (vp_in_nI (n := 0) (by decide) (by decide)))) (xp_X3_read_51_0 _ J 0)
        have e18 : I2d 0 18 = nI 1 := (a5 0 18 (by omega)).trans (z18.trans ((m5 0 18 (by omega)).trans ((g5 0 18 (by omega)).trans h18)))
        refine Or.inr ⟨c, 1, ij_u (ij_u Id 3 4 1) 5 0 0, I2d, J2d, xr _ _ x40, fun v τ hg => rr v τ (rp_board_154_1 I2d J2d 1 (by decide) (by rw [c3, hk4]; rfl) 1 (rs_isGood_y (d2 := d2 + 5) h7d) hg), nx 1 _ _ ⟨kcd.1, kcd.2.1, kcd.2.2⟩ (by decide) (by decide) rfl e18 (fun j hj => ?_), ?_, lb_F_u (by omega) (lb_F_u (by omega) Fd), Fd2, fJd⟩
        · have : j = 0 := by omega
          subst this
          refine ⟨0, by decide, rfl, ?_⟩
          rw [a5 6 0 (by omega), congrFun z6row 0]
          exact ((m5 6 0 (by omega)).trans (g5 6 0 (by omega))).trans (h56 0 (by decide)).2
        · exact kcd.2.2.2.2.trans h8c
      · -- an ant is told
        have n0 : ¬ Id 3 8 = 0 := by rw [b3]; exact nI_ne0 (by omega) (by omega)
        have n0r : ¬ I2d 0 12 = 0 := by rw [c3]; exact nI_ne0 (by omega) (by omega)
        have xa : ∀ w Iz, xk_go (ik_cr xk_P xk_M xk_Y xk_K xw_X (d + 3)) 60 (6, [some (.ref 3)], [.int (xw_w Id 1)], (xk_R b, Id, J)) (some (.int w)) (xk_R b, Iz, J) → lk_cx1 xw_X (d + 5) 56 [.ref 3, .int (nI n)] (xk_R b, I, J) (some (.int w)) (xk_R b, Iz, J) := fun w Iz hg =>
          xr w Iz (xp_X3_read_40_0 Id J w n0 (ik_cr_of (Nat.le_of_ble_eq_true rfl) (xp_X3_readAnt_0_0 Id J (xp_X3_readAnt_3_0 Id J _ (lx_isWord (w := 1) (by decide)) hg))) (xp_X3_read_58_0 Iz J w))
        have ra : ∀ v τ, rk_go (rk_call (d2 + 6)) 18 (169, [some (.ref 0), none, none], [.int (xw_w Id 1), .ref 0], (rk_R, I2d, J2d)) v τ → rk_go (rk_call (d2 + 6)) 18 (64, [some (.ref 0), none, some (.int 8)], [], (rk_R, I2, J2)) v τ := fun v τ hg =>
          rr v τ (rp_board_154_2 I2d J2d 1 (by decide) n0r _ (lb_ant (d2 := d2 + 4) hn a3) hg)
        by_cases hw2 : xw_w Id 1 = 0
        · have h7e : ¬ ij_u (ij_u (ij_u I2d 0 7 1) 0 8 (I2d 0 13)) 0 18 0 0 7 = 0 := by show ¬ (1 : Int32) = 0; decide
          refine Or.inl ⟨1, Id, ij_u (ij_u (ij_u I2d 0 7 1) 0 8 (I2d 0 13)) 0 18 0, J2d, xa _ _ (xp_X3_readAnt_6_1 Id J _ hw2), ra _ _ ?_, ⟨Or.inl rfl, rfl, c1.trans b1.symm⟩, Fd, lb_F2_u (by omega) (lb_F2_u (by omega) (lb_F2_u (by omega) Fd2)), fJd⟩
          rw [hw2]
          exact rp_board_169_0 I2d J2d 0 (rs_need_n (d2 := d2 + 4) h7d) (rp_board_172_0 _ J2d (ij_cr_of (Nat.le_of_ble_eq_true rfl) (rp_readsAnt_0_0 _ J2d (rp_readsAnt_5_0 _ J2d 0 (rs_isGood_n (d2 := d2 + 4) h7e) (rp_readsAnt_9_0 _ J2d 0 rfl)))) (rs_tail2 (d := d2 + 4) h7e))
        have hbe0 : lb_by n (ij_u Id 3 4 0) I2d := hbd
        obtain ⟨s5, i5, k5, Ie, I2e, J2e, e1, e2, e3, e4, e5, e6⟩ := lb_take (X := xw_X) (d := d) (d2 := d2 + 3) (b := b) (J := J) (n := n) (i := i4) (ij_u Id 3 4 0) I2d J2d b5 hbe0 b2 c2
        have Fe : lb_F I Ie := lb_F_trans (lb_F_u (by omega) Fd) (lb_F_of e4)
        have Fe2 : lb_F2 I2 (ij_u I2e 0 18 0) := lb_F2_u (by omega) (lb_F2_trans Fd2 (lb_F2_of e5))
        have h7e : I2e 0 7 = 0 := (e5 0 7 (by omega)).trans h7d
        have hbe : lb_by n Ie (ij_u I2e 0 18 0) := (show lb_by n Ie I2e from lb_by_fr e4 e5 hbe0)
        have hte : lb_tk n Ie (ij_u I2e 0 18 0) J2e s5 i5 k5 := e3
        have kce : lb_kc Ic I2c Ie (ij_u I2e 0 18 0) := lb_kc_trans kcd ⟨funext (fun j => e4 4 j (by omega)), e4 3 3 (by omega), funext (fun j => e5 5 j (by omega)), e5 0 17 (by omega), e5 0 8 (by omega)⟩
        have step2 := lb_al (X := xw_X) (d := d) (d2 := d2 + 3) (n := n) (b := b) (J := J) 8 0 Ie (ij_u I2e 0 18 0) J2e s5 i5 k5 rfl hbe hte (e4 3 4 (by omega)) rfl h7e (fun j hj => absurd hj (Nat.not_lt_zero j))
        have xb : ∀ w Iz, xk_go (ik_cr xk_P xk_M xk_Y xk_K xw_X (d + 3)) 60 (20, [some (.ref 3)], [], (xk_R b, Ie, J)) (some (.int w)) (xk_R b, Iz, J) → lk_cx1 xw_X (d + 5) 56 [.ref 3, .int (nI n)] (xk_R b, I, J) (some (.int w)) (xk_R b, Iz, J) := fun w Iz hg =>
          xa w Iz (xp_X3_readAnt_6_0 Id J _ hw2 e1 hg)
        have rb : ∀ v τ I2z J2z, rk_go (rk_call (d2 + 5)) 16 (5, [some (.ref 0)], [], (rk_R, ij_u I2e 0 18 0, J2e)) none (rk_R, I2z, J2z) → rk_go (rk_call (d2 + 6)) 18 (176, [some (.ref 0), none, none], [], (rk_R, I2z, J2z)) v τ → rk_go (rk_call (d2 + 6)) 18 (64, [some (.ref 0), none, some (.int 8)], [], (rk_R, I2, J2)) v τ := fun v τ I2z J2z h1 hg =>
          ra v τ (rp_board_169_0 I2d J2d _ (rs_need_y (d2 := d2 + 4) hw2 h7d e2) (rp_board_172_0 I2e J2e (ij_cr_of (Nat.le_of_ble_eq_true rfl) (rp_readsAnt_0_0 I2e J2e h1)) hg))
        rcases step2 with ⟨f, If, I2f, J2f, y1, y2, y3, y4, y5, y6⟩ | ⟨cc, s6, i6, k6, If, I2f, J2f, y1, y2, ⟨hcc1, hcc8, hk6⟩, hbf, htf, y34, y18, y7, yrow, ykc, y4, y5, y6⟩
        · refine Or.inl ⟨f, If, I2f, J2f, xb _ _ y1, rb _ _ I2f J2f y2 ?_, y3, lb_F_trans Fe y4, lb_F2_trans Fe2 y5, lb_fJ_trans fJd (lb_fJ_trans e6 y6)⟩
          have q := rs_tail2 (d := d2 + 4) (I2 := I2f) (J2 := J2f) (by rw [y3.2.1]; exact lb_bad_ne y3)
          rw [y3.2.1] at q
          exact q
        have Ff : lb_F I If := lb_F_trans Fe y4
        have Ff2 : lb_F2 I2 I2f := lb_F2_trans Fe2 y5
        have fJf : lb_fJ J2 J2f := lb_fJ_trans fJd (lb_fJ_trans e6 y6)
        obtain ⟨⟨f1, f2, f3⟩, ⟨j1, j2, j3, j4⟩, ⟨f4, f5, f6⟩, fn, fw⟩ := id htf
        have nn2 : ¬ If 3 8 = 2 := by rw [f3]; exact fun q => hk6 ((nI_eq (b := 2) (by omega) (by decide)).mp q)
        by_cases hk63 : k6 = 3
        · have q3 : If 3 8 = 3 := by rw [f3, hk63]; rfl
          have q12 : I2f 0 12 = 3 := by rw [j3, hk63]; rfl
          obtain ⟨s7, i7, k7, Ig, I2g, J2g, l1, l2, l3, l4, l5, l6⟩ := lb_take (X := xw_X) (d := d) (d2 := d2 + 3) (b := b) (J := J) (n := n) (i := i6) If I2f J2f f5 hbf f2 j2
          have Fg : lb_F I Ig := lb_F_trans Ff (lb_F_of l4)
          have Fg2 : lb_F2 I2 I2g := lb_F2_trans Ff2 (lb_F2_of l5)
          have fJg : lb_fJ J2 J2g := lb_fJ_trans fJf l6
          have h7g : I2g 0 7 = 0 := (l5 0 7 (by omega)).trans y7
          obtain ⟨⟨o1, o2, o3⟩, ⟨p1, p2, p3, p4⟩, ⟨o4, o5, o6⟩, -, -⟩ := id l3
          have xg : ∀ w, xk_go (ik_cr xk_P xk_M xk_Y xk_K xw_X (d + 3)) 60 (111, [some (.ref 3)], [], (xk_R b, Ig, J)) (some (.int w)) (xk_R b, Ig, J) → lk_cx1 xw_X (d + 5) 56 [.ref 3, .int (nI n)] (xk_R b, I, J) (some (.int w)) (xk_R b, Ig, J) := fun w hg =>
            xb w Ig (y1 _ _ (xp_X3_readAnt_20_1 If J nn2 q3 (by rw [y34]; exact nI_ne0 hcc1 (by omega)) l1 hg))
          have rg : ∀ v τ, rk_go (rk_call (d2 + 6)) 18 (197, [some (.ref 0), none, none], [.int 1], (rk_R, I2g, J2g)) v τ → rk_go (rk_call (d2 + 6)) 18 (64, [some (.ref 0), none, some (.int 8)], [], (rk_R, I2, J2)) v τ := fun v τ hg =>
            rb v τ I2f J2f y2 (rp_board_176_1 I2f J2f q12 (rs_need_y (d2 := d2 + 4) (x := 1) (by decide) y7 l2) (rp_board_193_0 I2g J2g 1 (rs_isGood_y (d2 := d2 + 5) h7g) hg))
          by_cases hk7 : k7 = 0
          · refine Or.inr ⟨c, cc, Ig, I2g, J2g, xg 0 (xp_X3_readAnt_111_1 Ig J (by rw [o3, hk7]; rfl)), fun v τ hg => rg v τ (rp_board_197_1 I2g J2g 1 (by decide) (by rw [p3, hk7]; rfl) 1 (rs_isGood_y (d2 := d2 + 5) h7g) hg), ?_, ?_, Fg, Fg2, fJg⟩
            · refine nx cc Ig I2g (lb_kc_trans kce (lb_kc_trans ykc ⟨funext (fun j => l4 4 j (by omega)), l4 3 3 (by omega), funext (fun j => l5 5 j (by omega)), l5 0 17 (by omega), l5 0 8 (by omega)⟩)) hcc1 hcc8 ((l4 3 4 (by omega)).trans y34) ((l5 0 18 (by omega)).trans y18) (fun j hj => ?_)
              obtain ⟨v, hv, w1, w2⟩ := yrow j hj
              exact ⟨v, hv, (l4 5 j (by omega)).trans w1, (l5 6 j (by omega)).trans w2⟩
            · exact (l5 0 8 (by omega)).trans ((lb_kc_trans kce ykc).2.2.2.2.trans h8c)
          · have h7h : ¬ ij_u (ij_u I2g 0 7 1) 0 8 (I2g 0 13) 0 7 = 0 := by show ¬ (1 : Int32) = 0; decide
            refine Or.inl ⟨1, Ig, ij_u (ij_u I2g 0 7 1) 0 8 (I2g 0 13), J2g, xg 1 (xp_X3_readAnt_111_0 Ig J (by rw [o3]; exact nI_ne0 (by omega) (by omega))), rg _ _ ?_, ⟨Or.inl rfl, rfl, p1.trans o1.symm⟩, Fg, lb_F2_u (by omega) (lb_F2_u (by omega) Fg2), fJg⟩
            exact rp_board_197_2 I2g J2g 1 (by decide) (by rw [p3]; exact nI_ne0 (by omega) (by omega)) (rs_wrong (d2 := d2 + 5) 1 h7g) (rp_board_212_0 _ J2g 0 (rs_isGood_n (d2 := d2 + 5) h7h) (rp_board_216_1 _ J2g 0 rfl (vp_in_nI (n := 0) (by decide) (by decide)) (vp_in_nI (n := 0) (by decide) (by decide))))
        · have q3 : ¬ If 3 8 = 3 := by rw [f3]; exact fun q => hk63 ((nI_eq (b := 3) (by omega) (by decide)).mp q)
          have q12 : ¬ I2f 0 12 = 3 := by rw [j3]; exact fun q => hk63 ((nI_eq (b := 3) (by omega) (by decide)).mp q)
          have h7h : ¬ ij_u (ij_u I2f 0 7 1) 0 8 (I2f 0 13) 0 7 = 0 := by show ¬ (1 : Int32) = 0; decide
          refine Or.inl ⟨1, If, ij_u (ij_u I2f 0 7 1) 0 8 (I2f 0 13), J2f, xb 1 If (y1 _ _ (xp_X3_readAnt_20_0 If J nn2 q3)), rb _ _ I2f J2f y2 ?_, ⟨Or.inl rfl, rfl, j1.trans f1.symm⟩, Ff, lb_F2_u (by omega) (lb_F2_u (by omega) Ff2), fJf⟩
          exact rp_board_176_0 I2f J2f q12 (rs_need_n (d2 := d2 + 4) y7) (rp_board_193_0 _ J2f 0 (rs_isGood_n (d2 := d2 + 5) h7h) (rp_board_197_0 _ J2f 0 rfl 0 (rs_isGood_n (d2 := d2 + 5) h7h) (rp_board_216_1 _ J2f 0 rfl (vp_in_nI (n := 0) (by decide) (by decide)) (vp_in_nI (n := 0) (by decide) (by decide)))))
    · -- no board
      rw [if_neg hfar] at xf rf
      have h7h : ¬ ij_u (ij_u I2c 0 7 3) 0 8 (I2c 0 13) 0 7 = 0 := by show ¬ (3 : Int32) = 0; decide
      refine Or.inl ⟨3, Ic, ij_u (ij_u I2c 0 7 3) 0 8 (I2c 0 13), J2c, xbad 3 Ic (by decide) (z1 _ _ (xp_X3_readCorners_9_1 Ic J 0 n2 e8 (by rw [z3c]; exact nI_le (a := 3) hc3 (by omega)) xf (xp_X3_readCorners_109_0 Ic J 0 rfl))), rcor _ _ I2c J2c z2 ?_, ⟨Or.inr (Or.inr rfl), rfl, v1.trans u1.symm⟩, Fc, lb_F2_u (by omega) (lb_F2_u (by omega) Fc2), fJc⟩
      exact rp_board_106_0 I2c J2c 1 (rs_isGood_y (d2 := d2 + 5) z7) (rp_board_110_4 I2c J2c 1 (by decide) e12 0 rf (rp_board_125_2 I2c J2c 0 rfl (rs_wrong (d2 := d2 + 5) 3 z7) (rp_board_133_1 _ J2c e12 (rs_need_x (d2 := d2 + 4) 1 h7h) (rs_tail (rs_isGood_n (d2 := d2 + 5) h7h)))))
  · have n3 : ¬ Ic 3 8 = 3 := by rw [u3]; exact fun q => hk ((nI_eq (b := 3) (by omega) (by decide)).mp q)
    have n12 : ¬ I2c 0 12 = 3 := by rw [v3]; exact fun q => hk ((nI_eq (b := 3) (by omega) (by decide)).mp q)
    have n2 : ¬ Ic 3 8 = 2 := by rw [u3]; exact fun q => hk3 ((nI_eq (b := 2) (by omega) (by decide)).mp q)
    have h7h : ¬ ij_u (ij_u I2c 0 7 1) 0 8 (I2c 0 13) 0 7 = 0 := by show ¬ (1 : Int32) = 0; decide
    refine Or.inl ⟨1, Ic, ij_u (ij_u I2c 0 7 1) 0 8 (I2c 0 13), J2c, xbad 1 Ic (by decide) (z1 _ _ (xp_X3_readCorners_9_0 Ic J n2 n3)), rcor _ _ I2c J2c z2 ?_, ⟨Or.inl rfl, rfl, v1.trans u1.symm⟩, Fc, lb_F2_u (by omega) (lb_F2_u (by omega) Fc2), fJc⟩
    exact rp_board_106_0 I2c J2c 1 (rs_isGood_y (d2 := d2 + 5) z7) (rp_board_110_2 I2c J2c 1 (by decide) n12 n12 (rs_need_n (d2 := d2 + 4) z7) (rs_tail (rs_isGood_n (d2 := d2 + 5) h7h)))
end LB7
