/-! ===== laying a board: a new tile, in the reference ===== -/
section RG2
variable {d p n : Nat} {cs : Nat → Nat} {I : Nat → Nat → Int32} {J : Nat → Nat → Int64} {V1 V2 : Nat → Nat → Nat} {tb : Nat → Nat} {t s : Nat} {x2 g : Int32}
theorem rs_rg_new (h : rv_st p cs n V1 V2 tb I J) (hn : n < 2000) (ht : t < n) (hs : s < p) (hm : I 7 (8 * t + s) = -1) (hno : ∀ u, u < n → ¬ rv_e p (V1 u) (V2 u) (rv_w1 p cs V1 t s) (rv_w2 p cs V2 t s)) : ∃ (I2 : Nat → Nat → Int32) (J2 : Nat → Nat → Int64) (tb2 : Nat → Nat), (∀ v τ, rk_go (rk_call (d + 2)) 28 (12, [some (.ref 0), none, some (.int x2), some (.int g), some (.int (nI t)), some (.int (nI (s + 1))), none], [], (rk_R, I2, J2)) v τ → rk_go (rk_call (d + 2)) 28 (12, [some (.ref 0), none, some (.int x2), some (.int g), some (.int (nI t)), some (.int (nI s)), none], [], (rk_R, I, J)) v τ) ∧ rv_st p cs (n + 1) (rv_u V1 n (rv_w1 p cs V1 t s)) (rv_u V2 n (rv_w2 p cs V2 t s)) tb2 I2 J2 ∧ (I2 8 n = g ∧ I2 9 n = 1 ∧ I2 10 n = I 10 t ^^^ (1 <<< (I 22 s &&& 31)) ∧ I2 11 n = nI t ∧ I2 12 n = nI s ∧ J2 14 n = J 14 t) ∧ (I2 7 (8 * t + s) = nI n ∧ I2 7 (8 * n + s) = nI t ∧ ∀ j, j < 8 → j ≠ s → I2 7 (8 * n + j) = -1) ∧ (∀ q k, ¬ (q = 0 ∧ k = 21) → ¬ (q = 7 ∧ (k = 8 * t + s ∨ (8 * n ≤ k ∧ k < 8 * n + 8))) → ¬ ((q = 8 ∨ q = 9 ∨ q = 10 ∨ q = 11 ∨ q = 12) ∧ k = n) → q ≠ 21 → I2 q k = I q k) ∧ ∀ q k, q ≠ 17 → q ≠ 18 → ¬ ((q = 15 ∨ q = 16) ∧ 8 * n ≤ k ∧ k < 8 * n + 8) → ¬ (q = 14 ∧ k = n) → J2 q k = J q k := by
  have h2 := h
  obtain ⟨p8, n2, h1, h21, ha, hv⟩ := h2
  obtain ⟨J1, z1, z2, z3, z4⟩ := rs_rg53 (d := d) (x2 := x2) (g := g) h ht hs hm
  obtain ⟨k, k1, k2, k3⟩ := (rs_seek (d := d) p8 n2 h1 z2.2.2.2.2.2 z3).2 hno
  have hk := Nat.mod_lt (fd_y (fd_hs (rv_w1 p cs V1 t s) (rv_w2 p cs V2 t s) p) + k) (show 0 < 8192 by decide)
  obtain ⟨I', J', c1, ⟨c21, c8, c9, c10, c11, c12, c14⟩, c3, c4, c5⟩ := rs_comes (d := d + 1) (n := n) (p := p) (s := s) (I := ij_u I 21 ((fd_y (fd_hs (rv_w1 p cs V1 t s) (rv_w2 p cs V2 t s) p) + k) % 8192) (nI (n + 1))) (J := J1) (x1 := nI t) (g := g) (l := I 10 t ^^^ (1 <<< (I 22 s &&& 31))) hn p8 hs h1 h21 (Or.inr ⟨t, by omega, rfl, rfl⟩)
  have frI : ∀ q y, ¬ (q = 0 ∧ y = 21) → ¬ (q = 7 ∧ (y = 8 * t + s ∨ (8 * n ≤ y ∧ y < 8 * n + 8))) → ¬ ((q = 8 ∨ q = 9 ∨ q = 10 ∨ q = 11 ∨ q = 12) ∧ y = n) → ij_u (ij_u (ij_u I' 7 (8 * t + s) (nI n)) 7 (8 * n + s) (nI t)) 9 n (I' 9 n + 1) q y = ij_u I 21 ((fd_y (fd_hs (rv_w1 p cs V1 t s) (rv_w2 p cs V2 t s) p) + k) % 8192) (nI (n + 1)) q y := fun q y a1 a2 a3 => by
    rw [lb_u_at (fun z => a3 (by omega)), lb_u_at (fun z => a2 (by omega)), lb_u_at (fun z => a2 (by omega)), c4 q y a1 (fun z => a2 (by omega)) a3]
  have frJ : ∀ q y, ¬ ((q = 15 ∨ q = 16) ∧ 8 * n ≤ y ∧ y < 8 * n + 8) → ¬ (q = 14 ∧ y = n) → ij_u J' 14 n (J' 14 n + J' 14 t) q y = J1 q y := fun q y a1 a2 => (lb_u_at a2).trans (c5 q y a1 a2)
  have j14 : J' 14 n + J' 14 t = J 14 t := by
    rw [c14, c5 14 t (by omega) (by omega), z1 14 (by decide) (by decide)]
    exact Int64.zero_add _
  refine ⟨ij_u (ij_u (ij_u I' 7 (8 * t + s) (nI n)) 7 (8 * n + s) (nI t)) 9 n (I' 9 n + 1), ij_u J' 14 n (J' 14 n + J' 14 t), kl_u tb ((fd_y (fd_hs (rv_w1 p cs V1 t s) (rv_w2 p cs V2 t s) p) + k) % 8192) (n + 1), fun v τ hg => z4 _ k1 v τ ?_, ⟨p8, hn, ?_, ?_, ?_, ?_⟩, ⟨?_, ?_, ?_, ?_, ?_, ?_⟩, ⟨?_, ?_, ?_⟩, fun q y a1 a2 a3 a4 => (frI q y a1 a2 a3).trans (congrFun (ij_u_ne a4) y), fun q y a1 a2 a3 a4 => (frJ q y a3 a4).trans (congrFun (z1 q a1 a2) y)⟩
  · have q := rp_rings_53_1 (C := rk_call (d + 2)) (v := v) (τ := τ) (I' := I') (J' := J') I J1 x2 g (nI t) (nI s) (-1 - nI ((fd_y (fd_hs (rv_w1 p cs V1 t s) (rv_w2 p cs V2 t s) p) + k) % 8192)) (rg_neg hk)
    rw [rg_back, h21, nI_1, nI_clamp (show (fd_y (fd_hs (rv_w1 p cs V1 t s) (rv_w2 p cs V2 t s) p) + k) % 8192 < 2 ^ 31 by omega)] at q
    refine q (fun z => by have := (nI_eq (b := 2000) (by omega) (by decide)).mp z; omega) (vp_in_nI hk (by decide)) c1 ?_
    have vn : vp_in (nI n) 2000 := vp_in_nI hn (by decide)
    have q2 := rp_rings_102_0 (C := rk_call (d + 2)) (v := v) (τ := τ) I' J' x2 g (nI t) (nI s) (nI n)
    rw [lr_8' t s, lr_8' n s, nI_clamp (show 8 * t + s < 2 ^ 31 by omega), nI_clamp (show 8 * n + s < 2 ^ 31 by omega), nI_clamp (show n < 2 ^ 31 by omega), nI_clamp (show t < 2 ^ 31 by omega), nI_1] at q2
    exact q2 (vp_in_nI (by omega) (by decide)) (vp_in_nI (by omega) (by decide)) vn (vp_in_nI (by omega) (by decide)) vn vn vn hg
  · rw [frI 0 1 (by omega) (by omega) (by omega)]
    exact h1
  · rw [lb_u_at (by omega), lb_u_at (by omega), lb_u_at (by omega)]
    exact c21
  · intro i j hi hj
    rw [frJ 19 _ (by omega) (by omega), frJ 20 _ (by omega) (by omega), z1 19 (by decide) (by decide), z1 20 (by decide) (by decide)]
    exact ha i j hi hj
  · refine rv_put hn hv (fun j hj => ⟨(z3 j hj).1.2, (z3 j hj).2.2⟩) hno k2 k3 (fun z hz => frI 21 z (by omega) (by omega) (by omega)) (fun u j hu hj => ?_) (fun j hj => ?_)
    · rw [frJ 15 _ (by omega) (by omega), frJ 16 _ (by omega) (by omega), z1 15 (by decide) (by decide), z1 16 (by decide) (by decide)]
      exact ⟨rfl, rfl⟩
    · rw [lb_u_at (by omega), lb_u_at (by omega), ((c3 j (by omega)).2 hj).1, ((c3 j (by omega)).2 hj).2]
      exact ⟨(z3 j hj).1.1, (z3 j hj).2.1⟩
  · rw [lb_u_at (by omega), lb_u_at (by omega), lb_u_at (by omega)]; exact c8
  · rw [ij_u_same, c9]; rfl
  · rw [lb_u_at (by omega), lb_u_at (by omega), lb_u_at (by omega)]; exact c10
  · rw [lb_u_at (by omega), lb_u_at (by omega), lb_u_at (by omega)]; exact c11
  · rw [lb_u_at (by omega), lb_u_at (by omega), lb_u_at (by omega)]; exact c12
  · rw [ij_u_same]; exact j14
  · rw [lb_u_at (by omega), lb_u_at (by omega), ij_u_same]
  · rw [lb_u_at (by omega), ij_u_same]
  · intro j hj ne
    rw [lb_u_at (by omega), lb_u_at (by omega), lb_u_at (by omega)]
    exact (c3 j hj).1
end RG2
