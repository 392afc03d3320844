/-! ===== image, restore: both copy alike ===== -/
/-- a row copied, all else as before -/
def lk_cp (a c n : Nat) (I I' : Nat → Nat → Int32) : Prop := (∀ k, k < n → I' c k = I a k) ∧ ∀ p k, p ≠ c → I' p k = I p k
theorem rs_cp (C : ij_R) (J : Nat → Nat → Int64) (a c n : Nat) (hac : a ≠ c) (hn : n < 2 ^ 31)
    (P1 : ∀ I x, nI n ≤ x → rk_go C 2 (2, [none, some (.ref a), some (.ref c), some (.int x)], [], (rk_R, I, J)) none (rk_R, I, J))
    (P2 : ∀ I x τ, ¬ nI n ≤ x → vp_in x n → rk_go C 2 (2, [none, some (.ref a), some (.ref c), some (.int (x + 1))], [], (rk_R, ij_u I c x.toNatClampNeg (I a x.toNatClampNeg), J)) none τ → rk_go C 2 (2, [none, some (.ref a), some (.ref c), some (.int x)], [], (rk_R, I, J)) none τ) :
    ∀ (m k : Nat) (I : Nat → Nat → Int32), k + m = n → ∃ I', rk_go C 2 (2, [none, some (.ref a), some (.ref c), some (.int (nI k))], [], (rk_R, I, J)) none (rk_R, I', J) ∧ (∀ j, k ≤ j → j < n → I' c j = I a j) ∧ (∀ j, j < k → I' c j = I c j) ∧ ∀ p j, p ≠ c → I' p j = I p j := by
  intro m
  induction m with
  | zero =>
    intro k I hk
    have : k = n := by omega
    subst this
    exact ⟨I, P1 I (nI k) (nI_le (Nat.le_refl k) hn), fun j h1 h2 => absurd h2 (by omega), fun _ _ => rfl, fun _ _ _ => rfl⟩
  | succ m ih =>
    intro k I hk
    obtain ⟨I', g1, g2, g3, g4⟩ := ih (k + 1) (ij_u I c k (I a k)) (by omega)
    refine ⟨I', P2 I (nI k) _ (nI_ge (by omega) hn) (vp_in_nI (by omega) hn) ?_, ?_, ?_, ?_⟩
    · rw [nI_clamp (by omega), nI_1]
      exact g1
    · intro j h1 h2
      by_cases hj : j = k
      · rw [hj, g3 k (by omega)]
        exact ij_u_same _ _ _ _
      · rw [g2 j (by omega) h2, ij_u_ne hac]
    · intro j h1
      rw [g3 j (by omega)]
      exact ij_u_other _ _ _ _ (by omega)
    · intro p j hp
      rw [g4 p j hp, ij_u_ne hp]
theorem rs_cp_35_39 (d : Nat) (I : Nat → Nat → Int32) (J : Nat → Nat → Int64) : ∃ I', rk_call (d + 1) 2 [.ref 0, .ref 35, .ref 39] (rk_R, I, J) none (rk_R, I', J) ∧ lk_cp 35 39 2000 I I' := by
  obtain ⟨I', g1, g2, -, g4⟩ := rs_cp (rk_call d) J 35 39 2000 (by decide) (by decide) (fun I x h => rp_copies_35_39_2_0 I J x (by decide) h) (fun I x τ h1 h2 h3 => rp_copies_35_39_2_1 I J x (by decide) h1 h2 h2 h3) 2000 0 I (Nat.zero_add _)
  exact ⟨I', ij_cr_of (Nat.le_of_ble_eq_true rfl) (rp_copies_35_39_0_0 I J g1), fun k hk => g2 k (Nat.zero_le k) hk, g4⟩
theorem rs_cp_36_40 (d : Nat) (I : Nat → Nat → Int32) (J : Nat → Nat → Int64) : ∃ I', rk_call (d + 1) 2 [.ref 0, .ref 36, .ref 40] (rk_R, I, J) none (rk_R, I', J) ∧ lk_cp 36 40 1000 I I' := by
  obtain ⟨I', g1, g2, -, g4⟩ := rs_cp (rk_call d) J 36 40 1000 (by decide) (by decide) (fun I x h => rp_copies_36_40_2_0 I J x (by decide) h) (fun I x τ h1 h2 h3 => rp_copies_36_40_2_1 I J x (by decide) h1 h2 h2 h3) 1000 0 I (Nat.zero_add _)
  exact ⟨I', ij_cr_of (Nat.le_of_ble_eq_true rfl) (rp_copies_36_40_0_0 I J g1), fun k hk => g2 k (Nat.zero_le k) hk, g4⟩
theorem rs_cp_37_41 (d : Nat) (I : Nat → Nat → Int32) (J : Nat → Nat → Int64) : ∃ I', rk_call (d + 1) 2 [.ref 0, .ref 37, .ref 41] (rk_R, I, J) none (rk_R, I', J) ∧ lk_cp 37 41 1000 I I' := by
  obtain ⟨I', g1, g2, -, g4⟩ := rs_cp (rk_call d) J 37 41 1000 (by decide) (by decide) (fun I x h => rp_copies_37_41_2_0 I J x (by decide) h) (fun I x τ h1 h2 h3 => rp_copies_37_41_2_1 I J x (by decide) h1 h2 h2 h3) 1000 0 I (Nat.zero_add _)
  exact ⟨I', ij_cr_of (Nat.le_of_ble_eq_true rfl) (rp_copies_37_41_0_0 I J g1), fun k hk => g2 k (Nat.zero_le k) hk, g4⟩
theorem rs_cp_39_35 (d : Nat) (I : Nat → Nat → Int32) (J : Nat → Nat → Int64) : ∃ I', rk_call (d + 1) 2 [.ref 0, .ref 39, .ref 35] (rk_R, I, J) none (rk_R, I', J) ∧ lk_cp 39 35 2000 I I' := by
  obtain ⟨I', g1, g2, -, g4⟩ := rs_cp (rk_call d) J 39 35 2000 (by decide) (by decide) (fun I x h => rp_copies_39_35_2_0 I J x (by decide) h) (fun I x τ h1 h2 h3 => rp_copies_39_35_2_1 I J x (by decide) h1 h2 h2 h3) 2000 0 I (Nat.zero_add _)
  exact ⟨I', ij_cr_of (Nat.le_of_ble_eq_true rfl) (rp_copies_39_35_0_0 I J g1), fun k hk => g2 k (Nat.zero_le k) hk, g4⟩
theorem rs_cp_40_36 (d : Nat) (I : Nat → Nat → Int32) (J : Nat → Nat → Int64) : ∃ I', rk_call (d + 1) 2 [.ref 0, .ref 40, .ref 36] (rk_R, I, J) none (rk_R, I', J) ∧ lk_cp 40 36 1000 I I' := by
  obtain ⟨I', g1, g2, -, g4⟩ := rs_cp (rk_call d) J 40 36 1000 (by decide) (by decide) (fun I x h => rp_copies_40_36_2_0 I J x (by decide) h) (fun I x τ h1 h2 h3 => rp_copies_40_36_2_1 I J x (by decide) h1 h2 h2 h3) 1000 0 I (Nat.zero_add _)
  exact ⟨I', ij_cr_of (Nat.le_of_ble_eq_true rfl) (rp_copies_40_36_0_0 I J g1), fun k hk => g2 k (Nat.zero_le k) hk, g4⟩
theorem rs_cp_41_37 (d : Nat) (I : Nat → Nat → Int32) (J : Nat → Nat → Int64) : ∃ I', rk_call (d + 1) 2 [.ref 0, .ref 41, .ref 37] (rk_R, I, J) none (rk_R, I', J) ∧ lk_cp 41 37 1000 I I' := by
  obtain ⟨I', g1, g2, -, g4⟩ := rs_cp (rk_call d) J 41 37 1000 (by decide) (by decide) (fun I x h => rp_copies_41_37_2_0 I J x (by decide) h) (fun I x τ h1 h2 h3 => rp_copies_41_37_2_1 I J x (by decide) h1 h2 h2 h3) 1000 0 I (Nat.zero_add _)
  exact ⟨I', ij_cr_of (Nat.le_of_ble_eq_true rfl) (rp_copies_41_37_0_0 I J g1), fun k hk => g2 k (Nat.zero_le k) hk, g4⟩
theorem lx_cp_44_42 {X : ij_R} (d : Nat) {b : Bool} (I : Nat → Nat → Int32) (J : Nat → Nat → Int64) : ∃ I', lk_cx1 X (d + 1) 97 [.ref 44, .ref 42] (xk_R b, I, J) none (xk_R b, I', J) ∧ I' 44 1 = I 42 1 ∧ I' 44 2 = I 42 2 ∧ I' 44 3 = I 42 3 ∧ I' 44 4 = I 42 4 ∧ (∀ k, k < 2000 → I' 45 k = I 43 k) ∧ ∀ p k, p ≠ 44 → p ≠ 45 → I' p k = I p k := by
  refine ⟨_, ik_cr_of (Nat.le_of_ble_eq_true rfl) (xp_X7_copyFrom_44_42_0_0 I J (by decide) (by decide) (by decide) (by decide) (by decide) (by decide) (xp_X7_copyFrom_44_42_16_0 _ J)), rfl, rfl, rfl, rfl, ?_, ?_⟩
  · intro k hk
    show va_cpy (I 43) (I 45) 0 0 2000 k = I 43 k
    unfold va_cpy
    rw [if_pos ⟨Nat.zero_le k, by omega⟩, Nat.zero_add, Nat.sub_zero]
  · intro p k h1 h2
    rw [ij_u_ne h1, ij_u_ne h1, ij_u_ne h1, ij_u_ne h1]
    exact if_neg h2
theorem lx_cp_42_44 {X : ij_R} (d : Nat) {b : Bool} (I : Nat → Nat → Int32) (J : Nat → Nat → Int64) : ∃ I', lk_cx1 X (d + 1) 97 [.ref 42, .ref 44] (xk_R b, I, J) none (xk_R b, I', J) ∧ I' 42 1 = I 44 1 ∧ I' 42 2 = I 44 2 ∧ I' 42 3 = I 44 3 ∧ I' 42 4 = I 44 4 ∧ (∀ k, k < 2000 → I' 43 k = I 45 k) ∧ ∀ p k, p ≠ 42 → p ≠ 43 → I' p k = I p k := by
  refine ⟨_, ik_cr_of (Nat.le_of_ble_eq_true rfl) (xp_X7_copyFrom_42_44_0_0 I J (by decide) (by decide) (by decide) (by decide) (by decide) (by decide) (xp_X7_copyFrom_42_44_16_0 _ J)), rfl, rfl, rfl, rfl, ?_, ?_⟩
  · intro k hk
    show va_cpy (I 45) (I 43) 0 0 2000 k = I 45 k
    unfold va_cpy
    rw [if_pos ⟨Nat.zero_le k, by omega⟩, Nat.zero_add, Nat.sub_zero]
  · intro p k h1 h2
    rw [ij_u_ne h1, ij_u_ne h1, ij_u_ne h1, ij_u_ne h1]
    exact if_neg h2
/-- what image leaves: the stand is kept, nothing else moves -/
def li_keep (I I2 I' I2' : Nat → Nat → Int32) : Prop :=
  I' 40 4 = 1 ∧ I2' 0 67 = 1 ∧ (I' 44 1 = I 42 1 ∧ I' 44 2 = I 42 2 ∧ I' 44 3 = I 42 3 ∧ I' 44 4 = I 42 4) ∧ (I2' 38 0 = I2 0 59 ∧ I2' 38 1 = I2 0 60 ∧ I2' 38 2 = I2 0 61 ∧ I2' 38 3 = I2 0 62 ∧ I2' 38 4 = I2 0 63) ∧ (∀ k, k < 2000 → I' 45 k = I 43 k) ∧ (∀ k, k < 2000 → I2' 39 k = I2 35 k) ∧ (∀ k, k < 1000 → I2' 40 k = I2 36 k) ∧ (∀ k, k < 1000 → I2' 41 k = I2 37 k) ∧ (∀ p k, p ≠ 44 → p ≠ 45 → ¬ (p = 40 ∧ k = 4) → I' p k = I p k) ∧ ∀ p k, p ≠ 38 → p ≠ 39 → p ≠ 40 → p ≠ 41 → ¬ (p = 0 ∧ k = 67) → ¬ (p = 0 ∧ k = 0) → I2' p k = I2 p k
def lk_image (R : lk_Rl) : Prop := ∀ b I J I2 J2 I' I2', R b I J I2 J2 → li_keep I I2 I' I2' → R b I' J I2' J2
theorem lq_image {X : ij_R} {d : Nat} {R : lk_Rl} (h : lk_image R) : lk_q_image X (d + 2) R := by
  intro b I J I2 J2 hR
  obtain ⟨Ia, a1, a2, a3, a4, a5, a6, a7⟩ := lx_cp_44_42 (X := X) d (b := b) I J
  obtain ⟨Ib, b1, b2, b3⟩ := rs_cp_35_39 (d + 1) (ij_u (ij_u (ij_u (ij_u (ij_u (ij_u (ij_u I2 0 0 0) 0 67 1) 38 0 (I2 0 59)) 38 1 (I2 0 60)) 38 2 (I2 0 61)) 38 3 (I2 0 62)) 38 4 (I2 0 63)) J2
  obtain ⟨Ic, c1, c2, c3⟩ := rs_cp_36_40 (d + 1) Ib J2
  obtain ⟨Id, d1, d2, d3⟩ := rs_cp_37_41 (d + 1) Ic J2
  refine ⟨b, ij_u Ia 40 4 1, J, Id, J2, ?_, ?_, ?_⟩
  · exact ik_cr_of (Nat.le_of_ble_eq_true rfl) (xp_X10_image_0_0 I J (ik_cr_of (Nat.le_of_ble_eq_true rfl) (xp_X0_keep_0_0 I J a1 (xp_X0_keep_11_0 Ia J (Or.inr rfl)))) (xp_X10_image_7_0 _ J))
  · exact ij_cr_of (Nat.le_of_ble_eq_true rfl) (rp_image_0_0 I2 J2 (Or.inr rfl) (vp_in_nI (n := 0) (by decide) (by decide)) (vp_in_nI (n := 1) (by decide) (by decide)) (vp_in_nI (n := 2) (by decide) (by decide)) (vp_in_nI (n := 3) (by decide) (by decide)) (vp_in_nI (n := 4) (by decide) (by decide)) b1 (rp_image_72_0 Ib J2 c1 (rp_image_84_0 Ic J2 d1 (rp_image_96_0 Id J2))))
  · have fr : ∀ p k, p ≠ 39 → p ≠ 40 → p ≠ 41 → Id p k = (ij_u (ij_u (ij_u (ij_u (ij_u (ij_u (ij_u I2 0 0 0) 0 67 1) 38 0 (I2 0 59)) 38 1 (I2 0 60)) 38 2 (I2 0 61)) 38 3 (I2 0 62)) 38 4 (I2 0 63)) p k := fun p k h1 h2 h3 => (d3 p k h3).trans ((c3 p k h2).trans (b3 p k h1))
    refine h b I J I2 J2 _ _ hR ⟨rfl, ?_, ⟨a2, a3, a4, a5⟩, ⟨?_, ?_, ?_, ?_, ?_⟩, a6, ?_, ?_, ?_, ?_, ?_⟩
    · exact (fr 0 67 (by decide) (by decide) (by decide)).trans rfl
    · exact (fr 38 0 (by decide) (by decide) (by decide)).trans rfl
    · exact (fr 38 1 (by decide) (by decide) (by decide)).trans rfl
    · exact (fr 38 2 (by decide) (by decide) (by decide)).trans rfl
    · exact (fr 38 3 (by decide) (by decide) (by decide)).trans rfl
    · exact (fr 38 4 (by decide) (by decide) (by decide)).trans rfl
    · intro k hk
      exact (d3 39 k (by decide)).trans ((c3 39 k (by decide)).trans (b2 k hk))
    · intro k hk
      exact (d3 40 k (by decide)).trans ((c2 k hk).trans (b3 36 k (by decide)))
    · intro k hk
      exact (d2 k hk).trans ((c3 37 k (by decide)).trans (b3 37 k (by decide)))
    · intro p k h1 h2 h3
      refine Eq.trans ?_ (a7 p k h1 h2)
      show (if p = 40 then (if k = 4 then (1 : Int32) else Ia p k) else Ia p k) = Ia p k
      by_cases hp : p = 40
      · rw [if_pos hp, if_neg (fun q => h3 ⟨hp, q⟩)]
      · rw [if_neg hp]
    · intro p k h1 h2 h3 h4 h5 h6
      rw [fr p k h2 h3 h4, ij_u_ne h1, ij_u_ne h1, ij_u_ne h1, ij_u_ne h1, ij_u_ne h1]
      show (if p = 0 then (if k = 67 then (1 : Int32) else (if p = 0 then (if k = 0 then 0 else I2 p k) else I2 p k)) else (if p = 0 then (if k = 0 then 0 else I2 p k) else I2 p k)) = I2 p k
      by_cases hp : p = 0
      · rw [if_pos hp, if_neg (fun q => h5 ⟨hp, q⟩), if_pos hp, if_neg (fun q => h6 ⟨hp, q⟩)]
      · rw [if_neg hp, if_neg hp]
