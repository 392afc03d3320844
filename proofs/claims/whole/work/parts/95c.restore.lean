/-- what restore leaves where something was kept -/
def li_back (I I2 I' I2' : Nat → Nat → Int32) : Prop :=
  (I' 42 1 = I 44 1 ∧ I' 42 2 = I 44 2 ∧ I' 42 3 = I 44 3 ∧ I' 42 4 = I 44 4) ∧ (I2' 0 59 = I2 38 0 ∧ I2' 0 60 = I2 38 1 ∧ I2' 0 61 = I2 38 2 ∧ I2' 0 62 = I2 38 3 ∧ I2' 0 63 = I2 38 4) ∧ (∀ k, k < 2000 → I' 43 k = I 45 k) ∧ (∀ k, k < 2000 → I2' 35 k = I2 39 k) ∧ (∀ k, k < 1000 → I2' 36 k = I2 40 k) ∧ (∀ k, k < 1000 → I2' 37 k = I2 41 k) ∧ (∀ p k, p ≠ 42 → p ≠ 43 → I' p k = I p k) ∧ ∀ p k, p ≠ 35 → p ≠ 36 → p ≠ 37 → ¬ (p = 0 ∧ (k = 0 ∨ k = 59 ∨ k = 60 ∨ k = 61 ∨ k = 62 ∨ k = 63)) → I2' p k = I2 p k
def lk_restore (R : lk_Rl) : Prop := (∀ b I J I2 J2, R b I J I2 J2 → I 40 4 = I2 0 67 ∧ (I 40 4 = 0 ∨ I 40 4 = 1)) ∧ ∀ b I J I2 J2 I' I2', R b I J I2 J2 → I 40 4 = 1 → li_back I I2 I' I2' → R b I' J I2' J2
theorem lq_restore {X : ij_R} {d : Nat} {R : lk_Rl} (hf : lk_free R) (h : lk_restore R) : lk_q_restore X (d + 2) R := by
  intro b I J I2 J2 hR
  obtain ⟨e, h01⟩ := h.1 b I J I2 J2 hR
  rcases h01 with h0 | h1
  · refine ⟨I 40 4, b, I, J, ij_u I2 0 0 0, J2, ?_, ?_, hf b I J I2 J2 0 hR⟩
    · exact ik_cr_of (Nat.le_of_ble_eq_true rfl) (xp_X10_restore_0_0 I J (I 40 4) (ik_cr_of (Nat.le_of_ble_eq_true rfl) (xp_X0_bringBack_0_0 I J h0 (Or.inl h0))) (xp_X10_restore_7_0 I J (I 40 4) (Or.inl h0)))
    · rw [h0]
      exact ij_cr_of (Nat.le_of_ble_eq_true rfl) (rp_restore_0_1 I2 J2 (by rw [← e]; exact h0))
  · obtain ⟨Ia, a1, a2, a3, a4, a5, a6, a7⟩ := lx_cp_42_44 (X := X) d (b := b) I J
    obtain ⟨Ib, b1, b2, b3⟩ := rs_cp_39_35 (d + 1) (ij_u (ij_u (ij_u (ij_u (ij_u (ij_u I2 0 0 0) 0 59 (I2 38 0)) 0 60 (I2 38 1)) 0 61 (I2 38 2)) 0 62 (I2 38 3)) 0 63 (I2 38 4)) J2
    obtain ⟨Ic, c1, c2, c3⟩ := rs_cp_40_36 (d + 1) Ib J2
    obtain ⟨Id, d1, d2, d3⟩ := rs_cp_41_37 (d + 1) Ic J2
    have ha : Ia 40 4 = 1 := (a7 40 4 (by decide) (by decide)).trans h1
    refine ⟨1, b, Ia, J, Id, J2, ?_, ?_, ?_⟩
    · have q := xp_X0_bringBack_18_0 (C := ik_cr xk_P xk_M xk_Y xk_K X (d + 1)) (b := b) Ia J (Or.inr ha)
      rw [ha] at q
      exact ik_cr_of (Nat.le_of_ble_eq_true rfl) (xp_X10_restore_0_0 I J 1 (ik_cr_of (Nat.le_of_ble_eq_true rfl) (xp_X0_bringBack_0_1 I J (by rw [h1]; decide) a1 q)) (xp_X10_restore_7_0 Ia J 1 (Or.inr rfl)))
    · exact ij_cr_of (Nat.le_of_ble_eq_true rfl) (rp_restore_0_0 I2 J2 (by rw [← e, h1]; decide) (vp_in_nI (n := 0) (by decide) (by decide)) (vp_in_nI (n := 1) (by decide) (by decide)) (vp_in_nI (n := 2) (by decide) (by decide)) (vp_in_nI (n := 3) (by decide) (by decide)) (vp_in_nI (n := 4) (by decide) (by decide)) b1 (rp_restore_76_0 Ib J2 c1 (rp_restore_88_0 Ic J2 d1 (rp_restore_100_0 Id J2))))
    · have fr : ∀ p k, p ≠ 35 → p ≠ 36 → p ≠ 37 → Id p k = (ij_u (ij_u (ij_u (ij_u (ij_u (ij_u I2 0 0 0) 0 59 (I2 38 0)) 0 60 (I2 38 1)) 0 61 (I2 38 2)) 0 62 (I2 38 3)) 0 63 (I2 38 4)) p k := fun p k h1 h2 h3 => (d3 p k h3).trans ((c3 p k h2).trans (b3 p k h1))
      refine h.2 b I J I2 J2 _ _ hR h1 ⟨⟨a2, a3, a4, a5⟩, ⟨?_, ?_, ?_, ?_, ?_⟩, a6, ?_, ?_, ?_, fun p k q1 q2 => a7 p k q1 q2, ?_⟩
      · exact (fr 0 59 (by decide) (by decide) (by decide)).trans rfl
      · exact (fr 0 60 (by decide) (by decide) (by decide)).trans rfl
      · exact (fr 0 61 (by decide) (by decide) (by decide)).trans rfl
      · exact (fr 0 62 (by decide) (by decide) (by decide)).trans rfl
      · exact (fr 0 63 (by decide) (by decide) (by decide)).trans rfl
      · intro k hk
        exact (d3 35 k (by decide)).trans ((c3 35 k (by decide)).trans (b2 k hk))
      · intro k hk
        exact (d3 36 k (by decide)).trans ((c2 k hk).trans (b3 40 k (by decide)))
      · intro k hk
        exact (d2 k hk).trans ((c3 41 k (by decide)).trans (b3 41 k (by decide)))
      · intro p k h1 h2 h3 h4
        rw [fr p k h1 h2 h3]
        by_cases hp : p = 0
        · subst hp
          rw [ij_u_other _ _ _ _ (fun q => h4 ⟨rfl, by simp [q]⟩), ij_u_other _ _ _ _ (fun q => h4 ⟨rfl, by simp [q]⟩), ij_u_other _ _ _ _ (fun q => h4 ⟨rfl, by simp [q]⟩), ij_u_other _ _ _ _ (fun q => h4 ⟨rfl, by simp [q]⟩), ij_u_other _ _ _ _ (fun q => h4 ⟨rfl, by simp [q]⟩), ij_u_other _ _ _ _ (fun q => h4 ⟨rfl, by simp [q]⟩)]
        · rw [ij_u_ne hp, ij_u_ne hp, ij_u_ne hp, ij_u_ne hp, ij_u_ne hp, ij_u_ne hp]
