/-! ===== laying a board: home in the reference ===== -/
section LO2
variable {d p : Nat} {cs : Nat → Nat} {I : Nat → Nat → Int32} {J : Nat → Nat → Int64}
theorem rs_lays90 (hp3 : 3 ≤ p) (hp : p ≤ 8) (h1 : I 0 1 = nI p) (h21 : I 0 21 = 0) (ha : an_t p cs J) (h0 : ∀ y, y < 8192 → I 21 y = 0) (hw : ∀ j, j < 8 → J 17 j = 1 ∧ J 18 j = 1) : ∃ (w : Int32) (tb : Nat → Nat) (I2 : Nat → Nat → Int32) (J2 : Nat → Nat → Int64), rk_call (d + 2) 26 [.ref 0] (rk_R, I, J) (some (.int w)) (rk_R, I, J) ∧ (∀ v τ, rk_go (rk_call (d + 2)) 29 (129, [some (.ref 0), none, some (.int 0), some (.int 1), none, none], [], (rk_R, ij_u (ij_u I2 13 0 1) 0 22 0, ij_u J2 14 0 1)) v τ → rk_go (rk_call (d + 2)) 29 (90, [some (.ref 0), none, none, none, none, none], [.int w, .int (-1)], (rk_R, I, J)) v τ) ∧ rv_st p cs 1 (fun _ _ => 1) (fun _ _ => 1) tb I2 J2 ∧ (I2 8 0 = 0 ∧ I2 9 0 = 0 ∧ I2 10 0 = 0 ∧ I2 11 0 = -1 ∧ I2 12 0 = 0 ∧ ∀ j, j < 8 → I2 7 j = -1) ∧ (∀ q k, ¬ (q = 0 ∧ k = 21) → ¬ (q = 7 ∧ k < 8) → ¬ ((q = 8 ∨ q = 9 ∨ q = 10 ∨ q = 11 ∨ q = 12) ∧ k = 0) → q ≠ 21 → I2 q k = I q k) ∧ ∀ q k, ¬ ((q = 15 ∨ q = 16) ∧ k < 8) → ¬ (q = 14 ∧ k = 0) → J2 q k = J q k := by
  have hv : rv_ok p 0 (fun _ _ => 1) (fun _ _ => 1) (fun _ => 0) I J := ⟨fun t j ht => absurd ht (Nat.not_lt_zero t), fun y hy => ⟨h0 y hy, Nat.zero_le 2000⟩, fd_ok0 (fun _ _ => rfl), fun t u ht => absurd ht (Nat.not_lt_zero t)⟩
  have hw' : ∀ j, j < p → (J 17 j = lN 1 ∧ 1 < an_P1) ∧ (J 18 j = lN 1 ∧ 1 < an_P2) := fun j hj => ⟨⟨(hw j (by omega)).1, by decide⟩, (hw j (by omega)).2, by decide⟩
  have hno : ∀ t, t < 0 → ¬ rv_e p (fun _ => 1) (fun _ => 1) (fun _ => 1) (fun _ => 1) := fun t ht => absurd ht (Nat.not_lt_zero t)
  obtain ⟨k, k1, k2, k3⟩ := (rs_seek (d := d) (W1 := fun _ => 1) (W2 := fun _ => 1) hp (by decide) h1 hv hw').2 hno
  have hk := Nat.mod_lt (fd_y (fd_hs (fun _ => 1) (fun _ => 1) p) + k) (show 0 < 8192 by decide)
  obtain ⟨I', J', c1, ⟨c21, c8, c9, c10, c11, c12, c14⟩, c3, c4, c5⟩ := rs_comes (d := d + 1) (n := 0) (p := p) (s := 0) (I := ij_u I 21 ((fd_y (fd_hs (fun _ => 1) (fun _ => 1) p) + k) % 8192) (nI (0 + 1))) (J := J) (x1 := -1) (g := 0) (l := 0) (by decide) hp (by omega) h1 h21 (Or.inl ⟨rfl, rfl⟩)
  have hput := rv_put (I' := I') (J' := J') (by decide) hv (fun j hj => ⟨(hw' j hj).1.2, (hw' j hj).2.2⟩) hno k2 k3 (fun z hz => c4 21 z (by omega) (by omega) (by omega)) (fun t j ht => absurd ht (Nat.not_lt_zero t)) (fun j hj => by
    obtain ⟨e1, e2⟩ := (c3 j (by omega)).2 hj
    exact ⟨e1.trans (hw' j hj).1.1, e2.trans (hw' j hj).2.1⟩)
  have eu : rv_u (fun _ _ => 1) 0 (fun _ => 1) = fun _ _ => 1 := by
    funext t
    unfold rv_u
    by_cases e : t = 0
    · rw [if_pos e]
    · rw [if_neg e]
  rw [eu] at hput
  refine ⟨_, _, I', J', k1, fun v τ hg => ?_, ⟨hp, by decide, (c4 0 1 (by omega) (by omega) (by omega)).trans h1, c21, fun i j hi hj => ?_, hput⟩, ⟨c8, c9, c10, c11, c12, fun j hj => ?_⟩, fun q y a1 a2 a3 a4 => ?_, fun q y a1 a2 => c5 q y (fun z => a1 ⟨z.1, by omega⟩) a2⟩
  · have q := rp_lays_90_0 (C := rk_call (d + 2)) (v := v) (τ := τ) (I' := I') (J' := J') I J (-1) (-1 - nI ((fd_y (fd_hs (fun _ => 1) (fun _ => 1) p) + k) % 8192))
    rw [rg_back, nI_clamp (show (fd_y (fd_hs (fun _ => 1) (fun _ => 1) p) + k) % 8192 < 2 ^ 31 by omega)] at q
    exact q (vp_in_nI hk (by decide)) c1 (rp_lays_106_0 I' J' (vp_in_nI (n := 0) (N := 2000) (by decide) (by decide)) (vp_in_nI (n := 0) (N := 2000) (by decide) (by decide)) hg)
  · rw [c5 19 _ (by omega) (by omega), c5 20 _ (by omega) (by omega)]
    exact ha i j hi hj
  · have := (c3 j hj).1
    rw [Nat.mul_zero, Nat.zero_add] at this
    exact this
  · rw [c4 q y a1 (fun z => a2 ⟨z.1, by omega⟩) a3]
    exact congrFun (ij_u_ne a4) y
end LO2
