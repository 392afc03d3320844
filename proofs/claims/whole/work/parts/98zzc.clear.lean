/-! ===== laying a board: the reference's tables cleared ===== -/
section LC1
variable {C : ij_R} {J : Nat → Nat → Int64}
theorem rs_lays10 : ∀ (r k : Nat) (I : Nat → Nat → Int32), k + r = 8192 → (∀ j, j < k → I 21 j = 0) → ∃ I' : Nat → Nat → Int32, (∀ v τ, rk_go C 29 (32, [some (.ref 0), some (.int 0), none, none, none, none], [], (rk_R, I', J)) v τ → rk_go C 29 (10, [some (.ref 0), some (.int (nI k)), none, none, none, none], [], (rk_R, I, J)) v τ) ∧ (∀ j, j < 8192 → I' 21 j = 0) ∧ ∀ q, q ≠ 21 → I' q = I q := by
  intro r
  induction r with
  | zero =>
    intro k I hk h
    have : k = 8192 := by omega
    subst this
    exact ⟨I, fun v τ hg => rp_lays_10_0 I J _ (nI_le (a := 8192) (Nat.le_refl 8192) (by decide)) hg, h, fun _ _ => rfl⟩
  | succ r ih =>
    intro k I hk h
    obtain ⟨I', k1, k2, k3⟩ := ih (k + 1) (ij_u I 21 k 0) (by omega) (fun j hj => by
      by_cases e : j = k
      · rw [e]; exact ij_u_same _ _ _ _
      · rw [ij_u_other _ _ _ _ e]; exact h j (by omega))
    refine ⟨I', fun v τ hg => ?_, k2, fun q hq => (k3 q hq).trans (ij_u_ne hq)⟩
    have q := rp_lays_10_1 (C := C) (v := v) (τ := τ) I J (nI k) (nI_ge (b := 8192) (by omega) (by decide)) (vp_in_nI (by omega) (by decide))
    rw [nI_clamp (by omega), nI_1] at q
    exact q (k1 v τ hg)
theorem rs_lays32 : ∀ (r k : Nat) (I : Nat → Nat → Int32), k + r = 2000 → (∀ j, j < k → I 13 j = 0) → ∃ I' : Nat → Nat → Int32, (∀ v τ, rk_go C 29 (59, [some (.ref 0), some (.int 0), none, none, none, none], [], (rk_R, ij_u I' 0 21 0, J)) v τ → rk_go C 29 (32, [some (.ref 0), some (.int (nI k)), none, none, none, none], [], (rk_R, I, J)) v τ) ∧ (∀ j, j < 2000 → I' 13 j = 0) ∧ ∀ q, q ≠ 13 → I' q = I q := by
  intro r
  induction r with
  | zero =>
    intro k I hk h
    have : k = 2000 := by omega
    subst this
    exact ⟨I, fun v τ hg => rp_lays_32_0 I J _ (nI_le (a := 2000) (Nat.le_refl 2000) (by decide)) hg, h, fun _ _ => rfl⟩
  | succ r ih =>
    intro k I hk h
    obtain ⟨I', k1, k2, k3⟩ := ih (k + 1) (ij_u I 13 k 0) (by omega) (fun j hj => by
      by_cases e : j = k
      · rw [e]; exact ij_u_same _ _ _ _
      · rw [ij_u_other _ _ _ _ e]; exact h j (by omega))
    refine ⟨I', fun v τ hg => ?_, k2, fun q hq => (k3 q hq).trans (ij_u_ne hq)⟩
    have q := rp_lays_32_1 (C := C) (v := v) (τ := τ) I J (nI k) (nI_ge (b := 2000) (by omega) (by decide)) (vp_in_nI (by omega) (by decide))
    rw [nI_clamp (by omega), nI_1] at q
    exact q (k1 v τ hg)
theorem rs_lays248 : ∀ (r k : Nat) (I : Nat → Nat → Int32), k + r = 2000 → (∀ j, j < k → I 35 j = 0) → ∃ I' : Nat → Nat → Int32, rk_go C 29 (248, [some (.ref 0), none, none, none, some (.int (nI k)), none], [], (rk_R, I, J)) none (rk_R, I', J) ∧ (∀ j, j < 2000 → I' 35 j = 0) ∧ (I' 0 59 = 0 ∧ I' 0 60 = 0 ∧ I' 0 61 = 0 ∧ I' 0 62 = 0) ∧ ∀ q y, q ≠ 35 → ¬ (q = 0 ∧ 59 ≤ y ∧ y ≤ 62) → I' q y = I q y := by
  intro r
  induction r with
  | zero =>
    intro k I hk h
    have : k = 2000 := by omega
    subst this
    refine ⟨ij_u (ij_u (ij_u (ij_u I 0 59 0) 0 60 0) 0 61 0) 0 62 0, rp_lays_248_0 I J _ (nI_le (a := 2000) (Nat.le_refl 2000) (by decide)), h, ⟨rfl, rfl, rfl, rfl⟩, fun q y a1 a2 => ?_⟩
    rw [lb_u_at (fun z => a2 (by omega)), lb_u_at (fun z => a2 (by omega)), lb_u_at (fun z => a2 (by omega)), lb_u_at (fun z => a2 (by omega))]
  | succ r ih =>
    intro k I hk h
    obtain ⟨I', k1, k2, k3, k4⟩ := ih (k + 1) (ij_u I 35 k 0) (by omega) (fun j hj => by
      by_cases e : j = k
      · rw [e]; exact ij_u_same _ _ _ _
      · rw [ij_u_other _ _ _ _ e]; exact h j (by omega))
    refine ⟨I', ?_, k2, k3, fun q y a1 a2 => (k4 q y a1 a2).trans (congrFun (ij_u_ne a1) y)⟩
    have q := rp_lays_248_1 (C := C) (v := none) (τ := (rk_R, I', J)) I J (nI k) (nI_ge (b := 2000) (by omega) (by decide)) (vp_in_nI (by omega) (by decide))
    rw [nI_clamp (by omega), nI_1] at q
    exact q k1
end LC1
