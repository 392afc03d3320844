/-! ===== laying a board: the class begins at home; the corners copied ===== -/
section BH1
variable {d p : Nat} {b : Bool} {X : ij_R}
theorem lx_atHome {I : Nat → Nat → Int32} {J : Nat → Nat → Int64} (hp : p ≤ 8) (h8 : I 6 8 = nI p) : ∃ I' : Nat → Nat → Int32, lk_cx1 X (d + 3) 48 [.ref 6] (xk_R b, I, J) none (xk_R b, I', ij_u (ij_u J 12 0 0) 12 0 1) ∧ pl_t p 1 (fun _ _ => 2000) (fun _ => 0) I' ∧ (I' 6 10 = 0 ∧ I' 11 0 = 0 ∧ I' 13 0 = 1 ∧ ∀ j, j < 8 → I' 9 j = -1) ∧ ∀ q k, ¬ (q = 6 ∧ k = 9) → ¬ (q = 6 ∧ k = 10) → ¬ (q = 10 ∧ k = 0) → ¬ (q = 11 ∧ k = 0) → ¬ (q = 13 ∧ k = 0) → ¬ (q = 9 ∧ k < 8) → I' q k = I q k := by
  obtain ⟨I1, a1, ⟨a9, a10, a11, a4⟩, a5⟩ := lx_addTile (X := X) (d := d) (b := b) (n := 0) (I := ij_u (ij_u I 6 9 0) 6 10 0) (J := J) (g := 0) (s := 0) (by decide) rfl
  refine ⟨ij_u I1 13 0 1, ik_cr_of (Nat.le_of_ble_eq_true rfl) (xp_X2_beginAtHome_0_0 (b' := b) I J a1 (xp_X2_beginAtHome_16_0 I1 _ (vp_in_nI (n := 0) (N := 2000) (by decide) (by decide)) (vp_in_nI (n := 0) (N := 64) (by decide) (by decide)))), ⟨hp, by decide, (a5 6 8 (by omega) (by omega) (by omega) (by omega)).trans h8, a9, fun t ht => ?_⟩, ⟨(a5 6 10 (by omega) (by omega) (by omega) (by omega)).trans rfl, a11, rfl, fun j hj => ?_⟩, fun q k x1 x2 x3 x4 x5 x6 => ?_⟩
  · have t0 : t = 0 := by omega
    subst t0
    refine ⟨⟨a10, by decide⟩, fun s hs => ⟨?_, fun z => absurd z (by show ¬ 2000 < 2000; decide)⟩⟩
    exact a4 s (by omega)
  · have := a4 j hj
    rw [Nat.mul_zero, Nat.zero_add] at this
    exact this
  · rw [lb_u_at x5, a5 q k x1 x3 x4 (fun z => x6 ⟨z.1, by omega⟩), lb_u_at x2, lb_u_at x1]
theorem lx_lay7 {C : ij_R} {J : Nat → Nat → Int64} (hp : p ≤ 8) : ∀ (r k : Nat) (I : Nat → Nat → Int32), k + r = 8 → ∃ I' : Nat → Nat → Int32, (∀ I2 J2 v τ, C 46 [.ref 6] (xk_R b, I', J) none (xk_R b, I2, J2) → xk_go C 28 (50, [some (.ref 6), none, none, none, none, none, none], [], (xk_R b, I2, J2)) v τ → xk_go C 28 (7, [some (.ref 6), some (.ref 4), some (.int (nI p)), some (.int (nI k)), none, none, none], [], (xk_R b, I, J)) v τ) ∧ (∀ j, k ≤ j → j < 8 → I' 7 j = if j < p then I 4 j else 0) ∧ ∀ q y, ¬ (q = 7 ∧ k ≤ y ∧ y < 8) → I' q y = I q y := by
  intro r
  induction r with
  | zero =>
    intro k I hk
    have : k = 8 := by omega
    subst this
    exact ⟨I, fun I2 J2 v τ h1 h2 => xp_X2_lay_4_7_0 (b' := b) I J _ _ (by decide) (by decide) h1 h2, fun j h1 h2 => by omega, fun _ _ _ => rfl⟩
  | succ r ih =>
    intro k I hk
    have g8 : ¬ (8 : Int32) ≤ nI k := nI_ge (b := 8) (by omega) (by decide)
    have vk : vp_in (nI k) 8 := vp_in_nI (by omega) (by decide)
    have cl : (nI k).toNatClampNeg = k := nI_clamp (by omega)
    obtain ⟨I', k1, k2, k3⟩ := ih (k + 1) (ij_u I 7 k (if k < p then I 4 k else 0)) (by omega)
    refine ⟨I', fun I2 J2 v τ h1 h2 => ?_, fun j h1 h2 => ?_, fun q y hq => (k3 q y (fun z => hq ⟨z.1, by omega, z.2.2⟩)).trans (lb_u_at (fun z => hq ⟨z.1, by omega, by omega⟩))⟩
    · have z := k1 I2 J2 v τ h1 h2
      by_cases e : k < p
      · rw [if_pos e] at z
        have q := xp_X2_lay_4_7_3 (C := C) (v := v) (τ := τ) (b := b) I J (nI p) (nI k) (by decide) g8 (by decide) g8 (nI_ge e (by omega)) vk vk
        rw [cl, nI_1] at q
        exact q z
      · rw [if_neg e] at z
        have q := xp_X2_lay_4_7_2 (C := C) (v := v) (τ := τ) (b := b) I J (nI p) (nI k) (by decide) g8 (by decide) g8 (nI_le (by omega) (by omega)) vk
        rw [cl, nI_1] at q
        exact q z
    · by_cases e : j = k
      · rw [e, k3 7 k (by omega), ij_u_same]
      · rw [k2 j (by omega) h2, lb_u_at (by omega)]
end BH1
