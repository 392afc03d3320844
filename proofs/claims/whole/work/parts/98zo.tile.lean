/-! ===== laying a board: a tile more, in the class and in the reference ===== -/
section TM1
variable {d n : Nat} {b : Bool} {X : ij_R}
theorem lx_setAcross {I : Nat → Nat → Int32} {J : Nat → Nat → Int64} {t s : Nat} {x : Int32} (ht : t < 2000) (hs : s < 8) : lk_cx1 X (d + 1) 54 [.ref 6, .int (nI t), .int (nI s), .int x] (xk_R b, I, J) none (xk_R b, ij_u I 9 (8 * t + s) x, J) := by
  have e : nI t * 8 + nI s = nI (8 * t + s) := by rw [Int32.mul_comm]; exact lr_8' t s
  have q := xp_X2_setAcross_0_2 (C := ik_cr xk_P xk_M xk_Y xk_K X d) (b := b) I J (nI t) (nI s) x
  rw [e, nI_clamp (show 8 * t + s < 2 ^ 31 by omega)] at q
  exact ik_cr_of (Nat.le_of_ble_eq_true rfl) (q (nI_pos (by omega)) (by decide) (nI_ge (b := 16000) (by omega) (by decide)) (vp_in_nI (by omega) (by decide)))
theorem lx_addTile71 {J : Nat → Nat → Int64} (hn : n < 2000) : ∀ (r k : Nat) (I : Nat → Nat → Int32), k + r = 8 → (∀ j, j < k → I 9 (8 * n + j) = -1) → ∃ I' : Nat → Nat → Int32, xk_go (ik_cr xk_P xk_M xk_Y xk_K X (d + 1)) 52 (71, [some (.ref 6), none, none, some (.int (nI n)), some (.int (nI k))], [], (xk_R b, I, J)) none (xk_R b, I', J) ∧ (∀ j, j < 8 → I' 9 (8 * n + j) = -1) ∧ ∀ q k, ¬ (q = 9 ∧ 8 * n ≤ k ∧ k < 8 * n + 8) → I' q k = I q k := by
  intro r
  induction r with
  | zero =>
    intro k I hk h
    have : k = 8 := by omega
    subst this
    exact ⟨I, xp_X2_addTile_71_0 I J _ _ (by decide), h, fun _ _ _ => rfl⟩
  | succ r ih =>
    intro k I hk h
    obtain ⟨I', k1, k2, k3⟩ := ih (k + 1) (ij_u I 9 (8 * n + k) (-1)) (by omega) (fun j hj => by
      by_cases e : j = k
      · rw [e]; exact ij_u_same _ _ _ _
      · rw [ij_u_other _ _ _ _ (by omega)]; exact h j (by omega))
    refine ⟨I', ?_, k2, fun q y hq => (k3 q y hq).trans (lb_u_at (fun z => hq ⟨z.1, by omega, by omega⟩))⟩
    rw [← nI_1] at k1
    exact xp_X2_addTile_71_1 I J _ _ (nI_ge (b := 8) (by omega) (by decide)) (lx_setAcross (d := d) hn (by omega)) (xp_X2_addTile_86_0 _ J _ _ k1)
/-- the class: a tile more -/
theorem lx_addTile {I : Nat → Nat → Int32} {J : Nat → Nat → Int64} {g s : Int32} (hn : n < 2000) (h9 : I 6 9 = nI n) : ∃ I' : Nat → Nat → Int32, lk_cx1 X (d + 2) 52 [.ref 6, .int g, .int s] (xk_R b, I, J) none (xk_R b, I', ij_u J 12 n 0) ∧ (I' 6 9 = nI (n + 1) ∧ I' 10 n = g ∧ I' 11 n = s ∧ ∀ j, j < 8 → I' 9 (8 * n + j) = -1) ∧ ∀ q k, ¬ (q = 6 ∧ k = 9) → ¬ (q = 10 ∧ k = n) → ¬ (q = 11 ∧ k = n) → ¬ (q = 9 ∧ 8 * n ≤ k ∧ k < 8 * n + 8) → I' q k = I q k := by
  obtain ⟨I', k1, k2, k3⟩ := lx_addTile71 (X := X) (d := d) (b := b) (J := ij_u J 12 n 0) hn 8 0 (ij_u (ij_u (ij_u I 10 n g) 11 n s) 6 9 (nI (n + 1))) (by decide) (fun j hj => absurd hj (Nat.not_lt_zero j))
  have ng : ¬ (2000 : Int32) ≤ nI n := nI_ge (b := 2000) hn (by decide)
  have vi : vp_in (nI n) 2000 := vp_in_nI hn (by decide)
  have q := xp_X2_addTile_0_3 (C := ik_cr xk_P xk_M xk_Y xk_K X (d + 1)) (v := none) (τ := (xk_R b, I', ij_u J 12 n 0)) (b := b) I J g s
  rw [h9, nI_1, nI_clamp (show n < 2 ^ 31 by omega)] at q
  refine ⟨I', ik_cr_of (Nat.le_of_ble_eq_true rfl) (q (nI_pos (by omega)) (by decide) ng (by decide) ng (by decide) (Int32.not_le.mp ng) vi vi vi k1), ⟨(k3 6 9 (by omega)).trans rfl, (k3 10 n (by omega)).trans ?_, (k3 11 n (by omega)).trans ?_, k2⟩, fun q k a1 a2 a3 a4 => ?_⟩
  · exact (lb_u_at (by omega)).trans ((lb_u_at (by omega)).trans (ij_u_same _ _ _ _))
  · exact (lb_u_at (by omega)).trans (ij_u_same _ _ _ _)
  · rw [k3 q k a4, lb_u_at a1, lb_u_at a3, lb_u_at a2]
end TM1
section TM2
variable {d n p : Nat}
theorem rs_comes86 {C : ij_R} (hn : n < 2000) (hp : p ≤ 8) : ∀ (r k : Nat) (I : Nat → Nat → Int32) (J : Nat → Nat → Int64), k + r = 8 → I 0 1 = nI p → I 0 21 = nI n → (∀ j, j < k → I 7 (8 * n + j) = -1 ∧ (j < p → J 15 (8 * n + j) = J 17 j ∧ J 16 (8 * n + j) = J 18 j)) → ∃ (I' : Nat → Nat → Int32) (J' : Nat → Nat → Int64), rk_go C 27 (86, [some (.ref 0), none, none, none, some (.int (nI k))], [], (rk_R, I, J)) none (rk_R, I', J') ∧ I' 0 21 = nI (n + 1) ∧ (∀ j, j < 8 → I' 7 (8 * n + j) = -1 ∧ (j < p → J' 15 (8 * n + j) = J 17 j ∧ J' 16 (8 * n + j) = J 18 j)) ∧ (∀ q k, ¬ (q = 0 ∧ k = 21) → ¬ (q = 7 ∧ 8 * n ≤ k ∧ k < 8 * n + 8) → I' q k = I q k) ∧ ∀ q k, ¬ ((q = 15 ∨ q = 16) ∧ 8 * n ≤ k ∧ k < 8 * n + 8) → J' q k = J q k := by
  intro r
  induction r with
  | zero =>
    intro k I J hk h1 h21 h
    have : k = 8 := by omega
    subst this
    exact ⟨ij_u I 0 21 (I 0 21 + 1), J, rp_comes_86_0 I J _ (by decide), by show I 0 21 + 1 = _; rw [h21, nI_1], h, fun q k a1 _ => lb_u_at a1, fun _ _ _ => rfl⟩
  | succ r ih =>
    intro k I J hk h1 h21 h
    have e8 : (8 : Int32) * nI n + nI k = nI (8 * n + k) := lr_8' n k
    have cl : (nI (8 * n + k)).toNatClampNeg = 8 * n + k := nI_clamp (by omega)
    have clk : (nI k).toNatClampNeg = k := nI_clamp (by omega)
    have n8 : ¬ (8 : Int32) ≤ nI k := nI_ge (b := 8) (by omega) (by decide)
    have v16 : vp_in (nI (8 * n + k)) 16000 := vp_in_nI (by omega) (by decide)
    have v8 : vp_in (nI k) 8 := vp_in_nI (by omega) (by decide)
    -- whatever is put
    have fin : ∀ y1 y2 : Int64, (k < p → y1 = J 17 k ∧ y2 = J 18 k) → (∀ τ, rk_go C 27 (86, [some (.ref 0), none, none, none, some (.int (nI (k + 1)))], [], (rk_R, ij_u I 7 (8 * n + k) (-1), ij_u (ij_u J 15 (8 * n + k) y1) 16 (8 * n + k) y2)) none τ → rk_go C 27 (86, [some (.ref 0), none, none, none, some (.int (nI k))], [], (rk_R, I, J)) none τ) → ∃ (I' : Nat → Nat → Int32) (J' : Nat → Nat → Int64), rk_go C 27 (86, [some (.ref 0), none, none, none, some (.int (nI k))], [], (rk_R, I, J)) none (rk_R, I', J') ∧ I' 0 21 = nI (n + 1) ∧ (∀ j, j < 8 → I' 7 (8 * n + j) = -1 ∧ (j < p → J' 15 (8 * n + j) = J 17 j ∧ J' 16 (8 * n + j) = J 18 j)) ∧ (∀ q k, ¬ (q = 0 ∧ k = 21) → ¬ (q = 7 ∧ 8 * n ≤ k ∧ k < 8 * n + 8) → I' q k = I q k) ∧ ∀ q k, ¬ ((q = 15 ∨ q = 16) ∧ 8 * n ≤ k ∧ k < 8 * n + 8) → J' q k = J q k := by
      intro y1 y2 hy hgo
      have jj : ∀ q, q ≠ 15 → q ≠ 16 → ij_u (ij_u J 15 (8 * n + k) y1) 16 (8 * n + k) y2 q = J q := fun q a1 a2 => (ij_u_ne a2).trans (ij_u_ne a1)
      obtain ⟨I', J', z1, z2, z3, z4, z5⟩ := ih (k + 1) (ij_u I 7 (8 * n + k) (-1)) (ij_u (ij_u J 15 (8 * n + k) y1) 16 (8 * n + k) y2) (by omega) h1 h21 (fun j hj => by
        rw [jj 17 (by decide) (by decide), jj 18 (by decide) (by decide)]
        by_cases e : j = k
        · subst e
          refine ⟨ij_u_same _ _ _ _, fun hjp => ⟨((congrFun (ij_u_ne (by decide)) _).trans (ij_u_same _ _ _ _)).trans (hy hjp).1, (ij_u_same _ _ _ _).trans (hy hjp).2⟩⟩
        · have ne : 8 * n + j ≠ 8 * n + k := by omega
          have z := h j (by omega)
          refine ⟨(ij_u_other _ _ _ _ ne).trans z.1, fun hjp => ⟨((congrFun (ij_u_ne (by decide)) _).trans (ij_u_other _ _ _ _ ne)).trans (z.2 hjp).1, ((ij_u_other _ _ _ _ ne).trans (congrFun (ij_u_ne (by decide)) _)).trans (z.2 hjp).2⟩⟩)
      refine ⟨I', J', hgo _ z1, z2, fun j hj => ⟨(z3 j hj).1, fun hjp => ?_⟩, fun q y a1 a2 => (z4 q y a1 a2).trans (lb_u_at (fun z => a2 ⟨z.1, by omega, by omega⟩)), fun q y a => (z5 q y a).trans ?_⟩
      · have z := (z3 j hj).2 hjp
        rw [jj 17 (by decide) (by decide), jj 18 (by decide) (by decide)] at z
        exact z
      · by_cases e16 : q = 16
        · subst e16
          rw [ij_u_other _ _ _ _ (fun z => a ⟨Or.inr rfl, by omega, by omega⟩)]
          exact congrFun (ij_u_ne (by decide)) y
        · rw [ij_u_ne e16]
          by_cases e15 : q = 15
          · subst e15
            exact ij_u_other _ _ _ _ (fun z => a ⟨Or.inl rfl, by omega, by omega⟩)
          · exact congrFun (ij_u_ne e15) y
    by_cases e : p ≤ k
    · have hle : I 0 1 ≤ nI k := by rw [h1]; exact nI_le e (by omega)
      refine fin 0 0 (fun z => by omega) (fun τ hg => ?_)
      have q := rp_comes_86_1 (C := C) (v := none) (τ := τ) I J (nI k) n8 hle
      rw [h21, e8, cl, nI_1] at q
      exact q v16 hle v16 v16 hg
    · have hge : ¬ I 0 1 ≤ nI k := by rw [h1]; exact nI_ge (by omega) (by omega)
      refine fin (J 17 k) (J 18 k) (fun _ => ⟨rfl, rfl⟩) (fun τ hg => ?_)
      have q := rp_comes_86_4 (C := C) (v := none) (τ := τ) I J (nI k) n8 hge v8
      rw [h21, e8, cl, clk, nI_1] at q
      exact q v16 hge v8 v16 v16 hg
/-- the reference: a tile more; l is whether it is lesser, by classes -/
theorem rs_comes {I : Nat → Nat → Int32} {J : Nat → Nat → Int64} {x1 g l : Int32} {s : Nat} (hn : n < 2000) (hp : p ≤ 8) (hs : s < p) (h1 : I 0 1 = nI p) (h21 : I 0 21 = nI n) (hl : (x1 = -1 ∧ l = 0) ∨ ∃ t, t < 2000 ∧ x1 = nI t ∧ l = I 10 t ^^^ (1 <<< (I 22 s &&& 31))) : ∃ (I' : Nat → Nat → Int32) (J' : Nat → Nat → Int64), rk_call (d + 1) 27 [.ref 0, .int x1, .int (nI s), .int g] (rk_R, I, J) none (rk_R, I', J') ∧ (I' 0 21 = nI (n + 1) ∧ I' 8 n = g ∧ I' 9 n = 0 ∧ I' 10 n = l ∧ I' 11 n = x1 ∧ I' 12 n = nI s ∧ J' 14 n = 0) ∧ (∀ j, j < 8 → I' 7 (8 * n + j) = -1 ∧ (j < p → J' 15 (8 * n + j) = J 17 j ∧ J' 16 (8 * n + j) = J 18 j)) ∧ (∀ q k, ¬ (q = 0 ∧ k = 21) → ¬ (q = 7 ∧ 8 * n ≤ k ∧ k < 8 * n + 8) → ¬ ((q = 8 ∨ q = 9 ∨ q = 10 ∨ q = 11 ∨ q = 12) ∧ k = n) → I' q k = I q k) ∧ ∀ q k, ¬ ((q = 15 ∨ q = 16) ∧ 8 * n ≤ k ∧ k < 8 * n + 8) → ¬ (q = 14 ∧ k = n) → J' q k = J q k := by
  have vn : vp_in (nI n) 2000 := vp_in_nI hn (by decide)
  have cl : (nI n).toNatClampNeg = n := nI_clamp (by omega)
  have cls : (nI s).toNatClampNeg = s := nI_clamp (by omega)
  obtain ⟨I', J', z1, z2, z3, z4, z5⟩ := rs_comes86 (C := rk_call d) hn hp 8 0 (ij_u (ij_u (ij_u (ij_u (ij_u I 8 n g) 9 n 0) 11 n x1) 12 n (nI s)) 10 n l) (ij_u J 14 n 0) (by decide) h1 h21 (fun j hj => absurd hj (Nat.not_lt_zero j))
  refine ⟨I', J', ?_, ⟨z2, ?_, ?_, ?_, ?_, ?_, ?_⟩, z3, fun q k a1 a2 a3 => ?_, fun q k a1 a2 => (z5 q k a1).trans (lb_u_at a2)⟩
  · rcases hl with ⟨ha, hb⟩ | ⟨t, ht, ha, hb⟩
    · have q := rp_comes_0_1 (C := rk_call d) (v := none) (τ := (rk_R, I', J')) I J x1 (nI s) g
      rw [h21, cl] at q
      rw [hb] at z1
      exact ij_cr_of (Nat.le_of_ble_eq_true rfl) (q vn vn vn vn vn ha vn z1)
    · have q := rp_comes_0_0 (C := rk_call d) (v := none) (τ := (rk_R, I', J')) I J x1 (nI s) g
      rw [h21, cl, cls, ha, nI_clamp (show t < 2 ^ 31 by omega), ← hb] at q
      rw [ha] at z1 ⊢
      exact ij_cr_of (Nat.le_of_ble_eq_true rfl) (q vn vn vn vn vn (nI_ne_m1 (by omega)) (vp_in_nI ht (by decide)) (vp_in_nI (by omega) (by decide)) vn z1)
  · rw [z4 8 n (by omega) (by omega), lb_u_at (by omega), lb_u_at (by omega), lb_u_at (by omega), lb_u_at (by omega), ij_u_same]
  · rw [z4 9 n (by omega) (by omega), lb_u_at (by omega), lb_u_at (by omega), lb_u_at (by omega), ij_u_same]
  · rw [z4 10 n (by omega) (by omega), ij_u_same]
  · rw [z4 11 n (by omega) (by omega), lb_u_at (by omega), lb_u_at (by omega), ij_u_same]
  · rw [z4 12 n (by omega) (by omega), lb_u_at (by omega), ij_u_same]
  · rw [z5 14 n (by omega), ij_u_same]
  · rw [z4 q k a1 a2, lb_u_at (by omega), lb_u_at (by omega), lb_u_at (by omega), lb_u_at (by omega), lb_u_at (by omega)]
end TM2
