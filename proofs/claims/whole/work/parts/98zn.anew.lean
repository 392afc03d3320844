
/-! ===== laying a board: what the class forgets ===== -/
section AW1
variable {d : Nat} {b : Bool} {J : Nat → Nat → Int64} {X : ij_R}
theorem lx_wforget {I : Nat → Nat → Int32} : lk_cx1 X (d + 1) 103 [.ref 19] (xk_R b, I, J) none (xk_R b, ij_u I 19 3 (-1), J) := ik_cr_of (Nat.le_of_ble_eq_true rfl) (xp_X9_forget_0_0 I J)
theorem lx_sforget2 {C : ij_R} : ∀ (r k : Nat) (I : Nat → Nat → Int32), k + r = 7 → (∀ j, j < k → I 36 j = 0) → ∃ I' : Nat → Nat → Int32, xk_go C 78 (2, [some (.ref 22), some (.int (nI k))], [], (xk_R b, I, J)) none (xk_R b, I', J) ∧ (∀ j, j < 7 → I' 36 j = 0) ∧ ∀ q, q ≠ 36 → I' q = I q := by
  intro r
  induction r with
  | zero =>
    intro k I hk h
    have : k = 7 := by omega
    subst this
    exact ⟨I, xp_X5_forget_2_0 I J _ (by decide) (by decide), h, fun _ _ => rfl⟩
  | succ r ih =>
    intro k I hk h
    obtain ⟨I', k1, k2, k3⟩ := ih (k + 1) (ij_u I 36 k 0) (by omega) (fun j hj => by
      by_cases e : j = k
      · rw [e]; exact ij_u_same _ _ _ _
      · rw [ij_u_other _ _ _ _ e]; exact h j (by omega))
    refine ⟨I', ?_, k2, fun q hq => (k3 q hq).trans (ij_u_ne hq)⟩
    have q := xp_X5_forget_2_1 (C := C) (v := none) (τ := (xk_R b, I', J)) (b := b) I J (nI k) (by decide) (nI_ge (b := 7) (by omega) (by decide)) (vp_in_nI (by omega) (by decide))
    rw [nI_clamp (by omega), nI_1, show vp_nar .boolean 0 = 0 from rfl] at q
    exact q k1
theorem lx_sforget {I : Nat → Nat → Int32} : ∃ I' : Nat → Nat → Int32, lk_cx1 X (d + 1) 78 [.ref 22] (xk_R b, I, J) none (xk_R b, I', J) ∧ (∀ j, j < 7 → I' 36 j = 0) ∧ ∀ q, q ≠ 36 → I' q = I q := by
  obtain ⟨I', k1, k2, k3⟩ := lx_sforget2 (C := ik_cr xk_P xk_M xk_Y xk_K X d) (b := b) (J := J) 7 0 I (by decide) (fun j hj => absurd hj (Nat.not_lt_zero j))
  exact ⟨I', ik_cr_of (Nat.le_of_ble_eq_true rfl) (xp_X5_forget_0_0 I J k1), k2, k3⟩
theorem lx_fill43 {C : ij_R} {z : Int32} : ∀ (r k : Nat) (I : Nat → Nat → Int32), k + r = 2000 → (∀ j, j < k → I 43 j = z) → ∃ I' : Nat → Nat → Int32, xk_go C 150 (5, [some (.ref 43), some (.int z), some (.int (nI k)), some (.int (nI 2000))], [], (xk_R b, I, J)) none (xk_R b, I', J) ∧ (∀ j, j < 2000 → I' 43 j = z) ∧ ∀ q, q ≠ 43 → I' q = I q := by
  intro r
  induction r with
  | zero =>
    intro k I hk h
    have : k = 2000 := by omega
    subst this
    exact ⟨I, xp_J7_fill_53178_43_5_0 I J z (nI 2000) (nI 2000) (nI_le (Nat.le_refl 2000) (by decide)), h, fun _ _ => rfl⟩
  | succ r ih =>
    intro k I hk h
    obtain ⟨I', k1, k2, k3⟩ := ih (k + 1) (ij_u I 43 k z) (by omega) (fun j hj => by
      by_cases e : j = k
      · rw [e]; exact ij_u_same _ _ _ _
      · rw [ij_u_other _ _ _ _ e]; exact h j (by omega))
    refine ⟨I', ?_, k2, fun q hq => (k3 q hq).trans (ij_u_ne hq)⟩
    have q := xp_J7_fill_53178_43_5_1 (C := C) (v := none) (τ := (xk_R b, I', J)) (b := b) I J z (nI k) (nI 2000) (nI_ge (b := 2000) (by omega) (by decide)) (vp_in_nI (by omega) (by decide))
    rw [nI_clamp (by omega), nI_1] at q
    exact q k1
theorem lx_clear42 {I : Nat → Nat → Int32} : ∃ I' : Nat → Nat → Int32, lk_cx1 X (d + 2) 96 [.ref 42] (xk_R b, I, J) none (xk_R b, I', J) ∧ (∀ j, j < 2000 → I' 43 j = 0) ∧ (I' 42 1 = 0 ∧ I' 42 2 = 0 ∧ I' 42 3 = 0 ∧ I' 42 4 = 0) ∧ ∀ q k, q ≠ 43 → ¬ (q = 42 ∧ 1 ≤ k ∧ k ≤ 4) → I' q k = I q k := by
  obtain ⟨I1, k1, k2, k3⟩ := lx_fill43 (C := ik_cr xk_P xk_M xk_Y xk_K X d) (b := b) (J := J) (z := 0) 2000 0 I (by decide) (fun j hj => absurd hj (Nat.not_lt_zero j))
  have c1 : lk_cx1 X (d + 1) 150 [.ref 43, .int 0] (xk_R b, I, J) none (xk_R b, I1, J) := ik_cr_of (Nat.le_of_ble_eq_true rfl) (xp_J7_fill_53178_43_0_0 I J 0 (by decide) k1)
  refine ⟨ij_u (ij_u (ij_u (ij_u I1 42 1 0) 42 2 0) 42 3 0) 42 4 0, ik_cr_of (Nat.le_of_ble_eq_true rfl) (xp_X7_clear_42_0_0 I J c1 (xp_X7_clear_42_8_0 I1 J)), k2, ⟨rfl, rfl, rfl, rfl⟩, fun q k a1 a2 => ?_⟩
  rw [lb_u_at (fun z => a2 (by omega)), lb_u_at (fun z => a2 (by omega)), lb_u_at (fun z => a2 (by omega)), lb_u_at (fun z => a2 (by omega)), k3 q a1]
theorem lx_anew7 : ∀ (r k : Nat) (I : Nat → Nat → Int32), k + r = 8 → (∀ j, j < k → I 41 j = I 5 j) → ∃ I' : Nat → Nat → Int32, xk_go (ik_cr xk_P xk_M xk_Y xk_K X (d + 2)) 0 (7, [some (.ref 40), some (.ref 5), none, some (.int (nI k))], [], (xk_R b, I, J)) none (xk_R b, I', J) ∧ (∀ j, j < 8 → I' 41 j = I 5 j) ∧ (∀ j, j < 2000 → I' 43 j = 0) ∧ (I' 42 1 = 0 ∧ I' 42 2 = 0 ∧ I' 42 3 = 0 ∧ I' 42 4 = 0) ∧ I' 40 4 = 0 ∧ ∀ q k, q ≠ 41 → q ≠ 43 → ¬ (q = 42 ∧ 1 ≤ k ∧ k ≤ 4) → ¬ (q = 40 ∧ k = 4) → I' q k = I q k := by
  intro r
  induction r with
  | zero =>
    intro k I hk h
    have : k = 8 := by omega
    subst this
    obtain ⟨I1, a1, a2, a3, a4⟩ := lx_clear42 (X := X) (d := d) (b := b) (J := J) (I := I)
    refine ⟨ij_u I1 40 4 0, xp_X0_beginAnew_5_7_0 I J _ (by decide) (by decide) a1 (xp_X0_beginAnew_5_44_0 I1 J (Or.inl rfl)), fun j hj => (a4 41 j (by decide) (by omega)).trans (h j hj), a2, a3, rfl, fun q k x1 x2 x3 x4 => (lb_u_at x4).trans (a4 q k x2 x3)⟩
  | succ r ih =>
    intro k I hk h
    obtain ⟨I', k1, k2, k3, k4, k5, k6⟩ := ih (k + 1) (ij_u I 41 k (I 5 k)) (by omega) (fun j hj => by
      by_cases e : j = k
      · rw [e]; exact ij_u_same _ _ _ _
      · rw [ij_u_other _ _ _ _ e]; exact h j (by omega))
    refine ⟨I', ?_, k2, k3, k4, k5, fun q k x1 x2 x3 x4 => (k6 q k x1 x2 x3 x4).trans (lb_u_at (fun z => x1 z.1))⟩
    have q := xp_X0_beginAnew_5_7_2 (C := ik_cr xk_P xk_M xk_Y xk_K X (d + 2)) (v := none) (τ := (xk_R b, I', J)) (b := b) I J (nI k) (by decide) (nI_ge (b := 8) (by omega) (by decide)) (by decide) (nI_ge (b := 8) (by omega) (by decide)) (vp_in_nI (by omega) (by decide)) (vp_in_nI (by omega) (by decide))
    rw [nI_clamp (by omega), nI_1] at q
    exact q k1
/-- the ant begins anew -/
theorem lx_beginAnew {I : Nat → Nat → Int32} {n : Int32} : ∃ I' : Nat → Nat → Int32, lk_cx1 X (d + 3) 0 [.ref 40, .ref 5, .int n] (xk_R b, I, J) none (xk_R b, I', J) ∧ (∀ j, j < 8 → I' 41 j = I 5 j) ∧ (∀ j, j < 2000 → I' 43 j = 0) ∧ (I' 42 1 = 0 ∧ I' 42 2 = 0 ∧ I' 42 3 = 0 ∧ I' 42 4 = 0) ∧ (I' 40 4 = 0 ∧ I' 40 5 = n) ∧ ∀ q k, q ≠ 41 → q ≠ 43 → ¬ (q = 42 ∧ 1 ≤ k ∧ k ≤ 4) → ¬ (q = 40 ∧ k = 4) → ¬ (q = 40 ∧ k = 5) → I' q k = I q k := by
  obtain ⟨I', k1, k2, k3, k4, k5, k6⟩ := lx_anew7 (X := X) (d := d) (b := b) (J := J) 8 0 (ij_u I 40 5 n) (by decide) (fun j hj => absurd hj (Nat.not_lt_zero j))
  exact ⟨I', ik_cr_of (Nat.le_of_ble_eq_true rfl) (xp_X0_beginAnew_5_0_0 I J n k1), k2, k3, k4, ⟨k5, (k6 40 5 (by decide) (by decide) (by omega) (by omega)).trans rfl⟩, fun q k x1 x2 x3 x4 x5 => (k6 q k x1 x2 x3 x4).trans (lb_u_at x5)⟩
end AW1
