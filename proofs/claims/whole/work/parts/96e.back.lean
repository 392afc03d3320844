/-! ===== back, apart ===== -/
/-- below the rim M all neighbours are there, of ring at most one more; tile 0 has ring 0 -/
def lr_in (p T M : Nat) (ring across : Nat → Int32) : Prop := 0 < T ∧ ring 0 = 0 ∧ ∀ a, a < T → ∃ r, r ≤ M ∧ r < 64 ∧ ring a = nI r ∧ (r < M → ∀ s, s < p → ∃ u r', u < T ∧ across (8 * a + s) = nI u ∧ ring u = nI r' ∧ r' ≤ r + 1)
section LB
variable {X : ij_R} {d d2 : Nat} {b : Bool} {J J2 : Nat → Nat → Int64} {p T M : Nat}
theorem ls_back_loop {I I2 : Nat → Nat → Int32} (hn : lr_lead p T I I2) (hin : lr_in p T M (I 10) (I 9)) : ∀ (r a u j : Nat), lr_spl p T (I 11) (I 9) (I 14) r a → a < T → I 10 a = nI r → r < 64 → u < T → I 10 u = nI j → j < 64 → j + r ≤ M → ∃ v, v < T ∧ xk_go (ik_cr xk_P xk_M xk_Y xk_K X (d + 1)) 43 (10, [some (.ref 6), none, some (.int (nI u)), some (.int (nI r - 1))], [], (xk_R b, I, J)) (some (.int (nI v))) (xk_R b, I, J) ∧ ∀ (C : ij_R) (I3 : Nat → Nat → Int32), I3 7 = I2 7 → I3 11 = I2 11 → I3 12 = I2 12 → rk_go C 51 (12, [some (.ref 0), none, some (.int (nI u)), some (.int (nI a)), some (.int (nI r))], [], (rk_R, I3, J2)) (some (.int (nI v))) (rk_R, I3, J2) := by
  obtain ⟨⟨n1, n2, n3, n4, hp, hT, hf⟩, hacr, hax⟩ := hn
  obtain ⟨hT0, hr0, hi⟩ := hin
  intro r
  induction r with
  | zero =>
    intro a u j _ ha hr _ hu _ _ _
    exact ⟨u, hu, xp_X2_byNameFromEnd_10_0 I J (nI u) (nI 0 - 1) (by decide), fun C I3 _ _ _ => rp_backOf_12_0 I3 J2 (nI u) (nI a) (nI 0) (by decide)⟩
  | succ r ih =>
    intro a u j hs ha hr h64 hu hj hj64 hM
    obtain ⟨s, c, h1, h2, h3, h4, h5, h6⟩ := hs
    obtain ⟨r1, hr1, f1, f2, f3⟩ := hf a ha
    have e1 : r1 = r + 1 := by
      rw [hr] at f1
      exact ((nI_eq (by omega) (by omega)).mp f1).symm
    subst e1
    obtain ⟨s', c', q1, q2, q3, q4, q5, q6, q7⟩ := f3.resolve_left (by omega)
    have es : s' = s := by
      rw [h3] at q3
      exact ((nI_eq (by omega) (by omega)).mp q3).symm
    subst es
    have ec : c' = c := by
      rw [h4] at q6
      exact ((nI_eq (by omega) (by omega)).mp q6).symm
    subst ec
    obtain ⟨j1, hj1, hj2, hj3, hj4⟩ := hi u hu
    have ej : j1 = j := by
      rw [hj] at hj3
      exact ((nI_eq (by omega) (by omega)).mp hj3).symm
    subst ej
    obtain ⟨v0, jv, g1, g2, g3, g4⟩ := hj4 (by omega) s' h1
    obtain ⟨jv1, -, k2, k3, -⟩ := hi v0 g1
    have ejv : jv = jv1 ∨ 64 ≤ jv := by
      by_cases hlt : jv < 64
      · rw [g3] at k3
        exact Or.inl ((nI_eq (by omega) (by omega)).mp k3)
      · exact Or.inr (by omega)
    have ejv2 : jv < 64 := by
      rcases ejv with e | e
      · omega
      · exfalso
        rw [g3] at k3
        have := (nI_eq (a := jv) (b := jv1) (by omega) (by omega)).mp k3
        omega
    obtain ⟨v, hv, w1, w2⟩ := ih c' v0 jv h6 h2 q7 (by omega) g1 g3 ejv2 (by omega)
    rw [Int32.sub_eq_add_neg] at w1
    have h45 := lx_spelledAt (X := X) (d := d) (b := b) (I := I) (J := J) (k := r) (by omega)
    rw [h5] at h45
    have h33 := lx_beyond (X := X) (d := d) (b := b) (I := I) (J := J) hp hT n1 n3 hu h1
    rw [g2] at h33
    refine ⟨v, hv, ?_, ?_⟩
    · rw [nI_pred]
      exact xp_X2_byNameFromEnd_10_2 I J (nI u) (nI r) (nI s') (nI_pos (by omega)) (nI_ne_m1 (by omega)) h45 (xp_X2_byNameFromEnd_26_0 I J (nI r) (nI u) (nI s') (nI v0) h33 (xp_X2_byNameFromEnd_29_0 I J (nI r) (nI v0) w1))
    · intro C I3 x7 x11 x12
      have z := w2 C I3 x7 x11 x12
      have e12 : I3 12 (nI a).toNatClampNeg = nI s' := by
        rw [nI_clamp (by omega), x12]
        exact q4
      have e11 : I3 11 (nI a).toNatClampNeg = nI c' := by
        rw [nI_clamp (by omega), x11]
        exact q5
      have q := rp_backOf_12_1 (C := C) (v := some (.int (nI v))) (τ := (rk_R, I3, J2)) I3 J2 (nI u) (nI a) (nI (r + 1)) (nI_nle (by omega) (by omega)) (vp_in_nI (by omega) (by decide)) (by rw [e12, lr_8']; exact vp_in_nI (by omega) (by decide)) (vp_in_nI (by omega) (by decide))
      rw [e12, e11, lr_8', nI_clamp (by omega), x7, hax u s' hu h1, g2, ← Int32.sub_eq_add_neg, nI_pred] at q
      exact q z
end LB
