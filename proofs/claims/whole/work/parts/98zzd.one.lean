/-! ===== laying a board: the reference's vector of home ===== -/
section LO1
variable {d p : Nat} {I : Nat → Nat → Int32}
theorem rs_lays59 {C : ij_R} : ∀ (r k : Nat) (J : Nat → Nat → Int64), k + r = 8 → (∀ j, j < k → J 17 j = 1 ∧ J 18 j = 1) → ∃ J' : Nat → Nat → Int64, (∀ w v τ, C 26 [.ref 0] (rk_R, I, J') (some (.int w)) (rk_R, I, J') → rk_go C 29 (90, [some (.ref 0), none, none, none, none, none], [.int w, .int (-1)], (rk_R, I, J')) v τ → rk_go C 29 (59, [some (.ref 0), some (.int (nI k)), none, none, none, none], [], (rk_R, I, J)) v τ) ∧ (∀ j, j < 8 → J' 17 j = 1 ∧ J' 18 j = 1) ∧ ∀ q, q ≠ 17 → q ≠ 18 → J' q = J q := by
  intro r
  induction r with
  | zero =>
    intro k J hk h
    have : k = 8 := by omega
    subst this
    exact ⟨J, fun w v τ h1 h2 => rp_lays_59_0 I J _ (nI_le (a := 8) (Nat.le_refl 8) (by decide)) w h1 h2, h, fun _ _ _ => rfl⟩
  | succ r ih =>
    intro k J hk h
    obtain ⟨J', k1, k2, k3⟩ := ih (k + 1) (ij_u (ij_u J 17 k 1) 18 k 1) (by omega) (fun j hj => by
      by_cases e : j = k
      · rw [e]
        exact ⟨(congrFun (ij_u_ne (by decide)) _).trans (ij_u_same _ _ _ _), ij_u_same _ _ _ _⟩
      · have z := h j (by omega)
        exact ⟨((congrFun (ij_u_ne (by decide)) _).trans (ij_u_other _ _ _ _ e)).trans z.1, ((ij_u_other _ _ _ _ e).trans (congrFun (ij_u_ne (by decide)) _)).trans z.2⟩)
    refine ⟨J', fun w v τ h1 h2 => ?_, k2, fun q a1 a2 => (k3 q a1 a2).trans ((ij_u_ne a2).trans (ij_u_ne a1))⟩
    have v8 : vp_in (nI k) 8 := vp_in_nI (by omega) (by decide)
    have q := rp_lays_59_1 (C := C) (v := v) (τ := τ) I J (nI k) (nI_ge (b := 8) (by omega) (by decide)) v8 v8
    rw [nI_clamp (by omega), nI_1] at q
    exact q (k1 w v τ h1 h2)
end LO1
