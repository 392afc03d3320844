/-! ===== the run of the law, over what must be known of all boards ===== -/
theorem wr_calls (hall : pg_all) : lk_calls xw_X 20 wr_R := by
  have hS : ∀ b I J I2 J2, wr_R b I J I2 J2 → ∃ p c T M cs tn rg ac, wr_S p c T M cs tn rg ac I J I2 J2 ∧ wr_N p T c tn I I2 := fun b I J I2 J2 h => by
    obtain ⟨p, c, T, M, cs, tn, rg, ac, g1, g2, g3, g4, _⟩ := h
    exact ⟨p, c, T, M, cs, tn, rg, ac, g1, g4⟩
  have row : ∀ b I J I2 J2, wr_R b I J I2 J2 → lr_row8 (I 6 8) (I2 0 1) (I 7) (I2 1) := fun b I J I2 J2 h => by
    obtain ⟨p, c, T, M, cs, tn, rg, ac, ⟨a1, h1, ⟨c1, c2⟩, _⟩, _⟩ := hS b I J I2 J2 h
    exact ⟨h1.2.1.1.trans h1.2.1.2.1.symm, ⟨p, a1.2.1, h1.2.1.2.1⟩, fun k hk => (c1 k hk).trans (c2 k hk).symm⟩
  have til : ∀ b I J I2 J2, wr_R b I J I2 J2 → lr_tiles (I 6 9) (I2 0 21) := fun b I J I2 J2 h => by
    obtain ⟨p, c, T, M, cs, tn, rg, ac, ⟨a1, h1, _⟩, _⟩ := hS b I J I2 J2 h
    exact ⟨h1.2.1.2.2.1.trans h1.2.1.2.2.2.1.symm, T, h1.1.2.2.1, h1.2.1.2.2.2.1⟩
  have tile : ∀ b I J I2 J2, wr_R b I J I2 J2 → ∃ p T M, lr_tile p T I I2 ∧ lr_in p T M (I 10) (I 9) := fun b I J I2 J2 h => by
    obtain ⟨p, c, T, M, cs, tn, rg, ac, ⟨a1, h1, _, ⟨d1, _⟩, _⟩, hn⟩ := hS b I J I2 J2 h
    exact ⟨p, T, M, wr_tile h1 d1 hn, wr_in h1⟩
  have tile' : ∀ b I J I2 J2, wr_R b I J I2 J2 → ∃ p T, lr_tile p T I I2 := fun b I J I2 J2 h => by
    obtain ⟨p, T, M, g, _⟩ := tile b I J I2 J2 h
    exact ⟨p, T, g⟩
  refine ⟨lq_feed (d := 19) wr_tape, lq_board (d := 14) (wr_board hall 12), lq_fault wr_free (fun b I J I2 J2 h => ?_), lq_count (d := 19) wr_free (fun b I J I2 J2 h => ?_), lq_corner (d := 17) wr_free row, lq_tile (d := 16) wr_spell tile', lq_across (d := 17) wr_free (fun b I J I2 J2 h => ⟨til b I J I2 J2 h, row b I J I2 J2 h, ?_⟩), lq_name (d := 16) wr_spell (fun b I J I2 J2 h => ?_), lq_ways (d := 17) wr_free (fun b I J I2 J2 h => ⟨til b I J I2 J2 h, ?_⟩), lq_ring (d := 18) wr_free (fun b I J I2 J2 h => ?_), lq_growth (d := 18) wr_free wr_gr (fun b I J I2 J2 h => ?_), lq_walks (d := 15) wr_walks, lq_home (d := 15) wr_walks, lq_far (d := 15) wr_walks, lq_walk (d := 17) wr_free (fun b I J I2 J2 h => ?_), lq_move (d := 16) wr_spell tile', lq_order (d := 16) wr_spell tile', lq_back (d := 16) wr_spell tile, lq_apart (d := 16) wr_spell tile, lq_side' (d := 17) wr_free (fun b I J I2 J2 h => ?_), lq_closed (d := 2) wr_closed, lq_first (d := 2) wr_closed, lq_steps (d := 15) wr_ant wr_free, lq_ant (d := 19) wr_free (fun b I J I2 J2 h => ?_), lq_undo (d := 16) wr_ant, lq_redo (d := 16) wr_ant, lq_image (d := 18) wr_image, lq_restore (d := 18) wr_free wr_restore⟩
  · obtain ⟨p, c, T, M, cs, tn, rg, ac, g1, g2, g3, g4, g5, g6, g7⟩ := h
    exact g6.1
  · obtain ⟨p, c, T, M, cs, tn, rg, ac, ⟨a1, h1, _, ⟨_, d2⟩, _, _, f2, f3, _⟩, g2, g3, g4, g5, g6, ⟨k, _, k1, k2, _⟩⟩ := h
    obtain ⟨_, ⟨b2, b3, b4, b5, b6, b7, b8⟩, _⟩ := h1
    exact ⟨b2.trans b3.symm, b4.trans b5.symm, b6.trans b7.symm, f2.trans f3.symm, d2, k1.trans k2.symm, g6.2.1, g6.2.2.1, g6.2.2.2⟩
  · obtain ⟨p, c, T, M, cs, tn, rg, ac, ⟨a1, h1, _⟩, _⟩ := hS b I J I2 J2 h
    intro a y ha a2 hy
    rw [h1.2.1.2.2.2.1] at ha
    have aT : a < T := (nI_ltI (by omega) (by have := h1.1.2.2.1; omega)).mp ha
    by_cases e : y < p
    · exact (wr_eq97 h1 a y aT e).symm
    · obtain ⟨q1, q2⟩ := (h1.2.2.1 a aT).2.2.2.2.2.2.1 y (by omega) hy
      rw [q1, q2]
  · obtain ⟨p, c, T, M, cs, tn, rg, ac, ⟨a1, h1, _⟩, _⟩ := hS b I J I2 J2 h
    exact ⟨p, T, wr_nm h1⟩
  · obtain ⟨p, c, T, M, cs, tn, rg, ac, ⟨a1, h1, _⟩, _⟩ := hS b I J I2 J2 h
    intro k hk k2
    rw [h1.2.1.2.2.2.1] at hk
    have kT : k < T := (nI_ltI (by omega) (by have := h1.1.2.2.1; omega)).mp hk
    exact (h1.2.2.1 k kT).2.2.2.2.1
  · obtain ⟨p, c, T, M, cs, tn, rg, ac, ⟨a1, h1, _⟩, _⟩ := hS b I J I2 J2 h
    obtain ⟨⟨_, _, _, M64⟩, ⟨b2, b3, b4, b5, b6, b7, b8⟩, _⟩ := h1
    exact ⟨b6.trans b7.symm, M, M64, b7, b8⟩
  · obtain ⟨p, c, T, M, cs, tn, rg, ac, ⟨a1, h1, ⟨c1, c2⟩, _, g, _⟩, _⟩ := hS b I J I2 J2 h
    have p8 := a1.2.1
    exact ⟨p, cs, p8, h1.2.1.2.1, fun j hj => ⟨by rw [c2 j (by omega), if_pos hj], (a1.2.2 j hj).1⟩, g⟩
  · obtain ⟨p, c, T, M, cs, tn, rg, ac, ⟨a1, h1, _⟩, _⟩ := hS b I J I2 J2 h
    exact ⟨p, T, wr_nm h1, wr_acr h1, wr_eq97 h1⟩
  · obtain ⟨p, c, T, M, cs, tn, rg, ac, ⟨a1, h1, _, ⟨d1, _⟩, _⟩, _⟩ := hS b I J I2 J2 h
    exact ⟨p, a1.2.1, h1.2.1.1, h1.2.1.2.1, d1⟩
  · obtain ⟨p, c, T, M, cs, tn, rg, ac, _, a, s, n, m, q, f, ⟨x1, x2, x3, x4⟩, ⟨z0, z1, z2, z3, z4⟩, _⟩ := hS b I J I2 J2 h
    exact ⟨x1.trans z0.symm, x2.trans z1.symm, x3.trans z2.symm, x4.trans z3.symm⟩
/-- the beginning: the board of five right corners -/
theorem wr_begin (hall : pg_all) : ∃ (b : Bool) (I : Nat → Nat → Int32) (J : Nat → Nat → Int64) (I2 : Nat → Nat → Int32) (J2 : Nat → Nat → Int64), lk_cx1 xw_X 20 139 [.ref 0] (xk_R false, xk_SI lk_z32, xk_SJ lk_z64) none (xk_R b, I, J) ∧ lk_cr1 20 29 [.ref 0] (rk_R, rk_SI lk_z32, rk_SJ lk_z64) none (rk_R, I2, J2) ∧ wr_R b I J I2 J2 := by
  have c5 : ∀ j, j < 5 → xk_SI lk_z32 4 j = nI 2 ∧ rk_SI lk_z32 1 j = nI 2 := fun j hj => by
    have : j = 0 ∨ j = 1 ∨ j = 2 ∨ j = 3 ∨ j = 4 := by omega
    rcases this with e | e | e | e | e <;> subst e <;> exact ⟨rfl, rfl⟩
  obtain ⟨I, J, I2, J2, l1, l2, l3⟩ := lay_both (X := xw_X) (d := 13) (e := 16) (b := false) (p := 5) (cs := fun _ => 2) (by decide) (by decide) (fun _ _ => by decide) (hall 5 (fun _ => 2) (by decide) (by decide) (fun _ _ => by decide) (by decide)) (I := xk_SI lk_z32) (J := xk_SJ lk_z64) (I2 := rk_SI lk_z32) (J2 := rk_SJ lk_z64) rfl (fun j hj => (c5 j hj).1) rfl (fun j hj => (c5 j hj).2)
  refine ⟨false, I, J, I2, J2, l1, l2, ?_⟩
  have e67 : I2 0 67 = 0 := by
    obtain ⟨_, _, _, _, _, _, _, _, _, f3, _⟩ := l3
    rw [f3 0 67 (by omega) (by omega) (by omega) (by omega) (by omega)]; rfl
  have eu : ij_u I2 0 67 0 = I2 := by
    funext q k
    by_cases e : q = 0
    · subst e
      by_cases e2 : k = 67
      · subst e2; rw [ij_u_same]; exact e67.symm
      · exact ij_u_other _ _ _ _ e2
    · rw [ij_u_ne e]
  have w := wr_laid (b := false) (c := 1) (q := 0) (by decide) (by decide) (fun _ _ => by decide) (by decide) l3 rfl rfl (fun j hj => by
    have : j = 0 ∨ j = 1 ∨ j = 2 ∨ j = 3 ∨ j = 4 ∨ j = 5 ∨ j = 6 ∨ j = 7 := by omega
    rcases this with e | e | e | e | e | e | e | e <;> subst e <;> rfl) (fun j hj => ⟨0, by decide, by rw [show j = 0 by omega]; rfl, by rw [show j = 0 by omega]; rfl⟩) ⟨0, by decide, rfl, fun z => absurd z (by decide)⟩ rfl (by decide) ⟨rfl, rfl, rfl, rfl⟩ ⟨0, by decide, rfl, rfl, fun j _ => rfl⟩
  rw [eu] at w
  exact w
theorem wr_run (hall : pg_all) (L : Nat) (xs : Nat → Int32) (hL : L ≤ 3072) : lk_run L xs := lk_law (d := 18) (by decide) (wr_begin hall) (wr_calls hall) hL
