/-! ===== board: the corners, the ant's turns ===== -/
def lb_F (I I' : Nat → Nat → Int32) : Prop := ∀ p k, p ≠ 3 → p ≠ 4 → p ≠ 5 → I' p k = I p k
def lb_F2 (I I' : Nat → Nat → Int32) : Prop := ∀ p k, p ≠ 5 → p ≠ 6 → ¬ (p = 0 ∧ 7 ≤ k ∧ k ≤ 18) → I' p k = I p k
theorem lb_F_refl (I : Nat → Nat → Int32) : lb_F I I := fun _ _ _ _ _ => rfl
theorem lb_F2_refl (I : Nat → Nat → Int32) : lb_F2 I I := fun _ _ _ _ _ => rfl
theorem lb_F_trans {I I' I'' : Nat → Nat → Int32} (h : lb_F I I') (h' : lb_F I' I'') : lb_F I I'' := fun p k a1 a2 a3 => (h' p k a1 a2 a3).trans (h p k a1 a2 a3)
theorem lb_F2_trans {I I' I'' : Nat → Nat → Int32} (h : lb_F2 I I') (h' : lb_F2 I' I'') : lb_F2 I I'' := fun p k a1 a2 a3 => (h' p k a1 a2 a3).trans (h p k a1 a2 a3)
theorem lb_F_of {I I' : Nat → Nat → Int32} (h : lb_fr I I') : lb_F I I' := fun p k a _ _ => h p k (fun e => a e.1)
theorem lb_F2_of {I I' : Nat → Nat → Int32} (h : lb_fr2 I I') : lb_F2 I I' := fun p k _ _ a => h p k (fun e => a ⟨e.1, by omega, by omega⟩)
theorem lb_F_u {I I0 : Nat → Nat → Int32} {p k : Nat} {v : Int32} (hp : p = 3 ∨ p = 4 ∨ p = 5) (h : lb_F I0 I) : lb_F I0 (ij_u I p k v) := fun p' k' a1 a2 a3 => (lb_u_at (fun e => by omega)).trans (h p' k' a1 a2 a3)
theorem lb_F2_u {I I0 : Nat → Nat → Int32} {p k : Nat} {v : Int32} (hp : p = 5 ∨ p = 6 ∨ p = 0 ∧ 7 ≤ k ∧ k ≤ 18) (h : lb_F2 I0 I) : lb_F2 I0 (ij_u I p k v) := fun p' k' a1 a2 a3 => (lb_u_at (fun e => by omega)).trans (h p' k' a1 a2 a3)
/-- a fault that both have found -/
def lb_bad (f : Nat) (I' I2' : Nat → Nat → Int32) : Prop := (f = 1 ∨ f = 2 ∨ f = 3) ∧ I2' 0 7 = nI f ∧ I2' 0 8 = I' 3 5
/-- c numbers of a row, both have them, each below m -/
def lb_row (m c q q2 : Nat) (I I2 : Nat → Nat → Int32) : Prop := ∀ j, j < c → ∃ v, v < m ∧ I q j = nI v ∧ I2 q2 j = nI v
theorem lb_no1 {v : Nat} (h : v < 1000) (e : v ≠ 1) : ¬ nI v = 1 := fun q => e ((nI_eq (b := 1) (by omega) (by decide)).mp q)
section LB4
variable {X : ij_R} {d d2 n : Nat} {b : Bool} {J : Nat → Nat → Int64}
/-- the corners, from the c-th on -/
theorem lb_cl : ∀ (r c : Nat) (I I2 : Nat → Nat → Int32) (J2 : Nat → Nat → Int64) (s i k : Nat), c + r = 8 → lb_by n I I2 → lb_tk n I I2 J2 s i k → I 3 3 = nI c → I2 0 17 = nI c → I2 0 7 = 0 → lb_row 10 c 4 5 I I2 → (∀ j, j < c → ¬ I 4 j = 1) →
    (∃ f I' I2' J2', xk_go (ik_cr xk_P xk_M xk_Y xk_K X (d + 3)) 57 (9, [some (.ref 3)], [], (xk_R b, I, J)) (some (.int (nI f))) (xk_R b, I', J) ∧ rk_go (rk_call (d2 + 2)) 15 (5, [some (.ref 0)], [], (rk_R, I2, J2)) none (rk_R, I2', J2') ∧ lb_bad f I' I2' ∧ lb_F I I' ∧ lb_F2 I2 I2' ∧ lb_fJ J2 J2') ∨
    (∃ c' s' i' k' I' I2' J2', (∀ v τ, xk_go (ik_cr xk_P xk_M xk_Y xk_K X (d + 3)) 57 (9, [some (.ref 3)], [], (xk_R b, I', J)) v τ → xk_go (ik_cr xk_P xk_M xk_Y xk_K X (d + 3)) 57 (9, [some (.ref 3)], [], (xk_R b, I, J)) v τ) ∧ rk_go (rk_call (d2 + 2)) 15 (5, [some (.ref 0)], [], (rk_R, I2, J2)) none (rk_R, I2', J2') ∧ (3 ≤ c' ∧ c' ≤ 8 ∧ k' ≠ 2 ∧ c ≤ c') ∧ lb_by n I' I2' ∧ lb_tk n I' I2' J2' s' i' k' ∧ I' 3 3 = nI c' ∧ I2' 0 17 = nI c' ∧ I2' 0 7 = 0 ∧ lb_row 10 c' 4 5 I' I2' ∧ (∀ j, j < c' → ¬ I' 4 j = 1) ∧ (∀ j, c' ≤ j → I2' 5 j = I2 5 j) ∧ lb_F I I' ∧ lb_F2 I2 I2' ∧ lb_fJ J2 J2' ∧ (I2' 0 18 = I2 0 18 ∧ I2' 6 = I2 6 ∧ I2' 0 8 = I2 0 8)) := by
  intro r
  induction r with
  | zero =>
    intro c I I2 J2 s i k hc hb ht h3 h17 h7 hrow hno
    have : c = 8 := by omega
    subst this
    have ht' := ht
    obtain ⟨⟨t1, t2, t3⟩, ⟨r1, r2, r3, r4⟩, ⟨t4, t5, t6⟩, tn, tw⟩ := ht'
    by_cases hk : k = 2
    · refine Or.inl ⟨2, I, ij_u (ij_u I2 0 7 2) 0 8 (I2 0 13), J2, ?_, ?_, ⟨Or.inr (Or.inl rfl), rfl, r1.trans t1.symm⟩, lb_F_refl I, lb_F2_u (by omega) (lb_F2_u (by omega) (lb_F2_refl I2)), lb_fJ_refl J2⟩
      · exact xp_X3_readCorners_9_6 I J (by rw [t3, hk]; rfl) (by rw [h3]; decide) (by decide) (by rw [h3]; decide)
      · exact rp_readsCorners_5_0 I2 J2 1 (rs_isGood_y h7) (rp_readsCorners_9_1 I2 J2 1 (by decide) (by rw [r3, hk]; rfl) (rp_readsCorners_28_0 I2 J2 (by rw [r3, hk]; rfl) h17 (rp_readsCorners_78_0 I2 J2 (rs_wrong 2 h7) (rp_readsCorners_83_0 _ J2 0 (rs_isGood_n (by show ¬ (2 : Int32) = 0; decide)) (rp_readsCorners_87_1 _ J2 0 rfl)))))
    · refine Or.inr ⟨8, s, i, k, I, I2, J2, fun _ _ hg => hg, ?_, ⟨by decide, by decide, hk, Nat.le_refl _⟩, hb, ht, h3, h17, h7, hrow, hno, fun _ _ => rfl, lb_F_refl I, lb_F2_refl I2, lb_fJ_refl J2, rfl, rfl, rfl⟩
      exact rp_readsCorners_5_0 I2 J2 1 (rs_isGood_y h7) (rp_readsCorners_9_2 I2 J2 1 (by decide) (by rw [r3]; exact fun q => hk ((nI_eq (b := 2) (by omega) (by decide)).mp q)) (by rw [h17]; decide))
  | succ r ih =>
    intro c I I2 J2 s i k hc hb ht h3 h17 h7 hrow hno
    have ht' := ht
    obtain ⟨⟨t1, t2, t3⟩, ⟨r1, r2, r3, r4⟩, ⟨t4, t5, t6⟩, tn, tw⟩ := ht'
    have h83 : ¬ (8 : Int32) < I 3 3 := by rw [h3]; exact nI_nlt (a := 8) (by omega) (by decide)
    have h83' : ¬ (8 : Int32) ≤ I 3 3 := by rw [h3]; exact nI_ge (b := 8) (by omega) (by decide)
    have h178 : ¬ I2 0 17 = 8 := by rw [h17]; exact fun q => absurd ((nI_eq (b := 8) (by omega) (by decide)).mp q) (by omega)
    by_cases hk : k = 2
    · have k2 : I 3 8 = 2 := by rw [t3, hk]; rfl
      have k2r : I2 0 12 = 2 := by rw [r3, hk]; rfl
      obtain ⟨v, hv, hv2, hv9⟩ := tn hk
      have hbad : ∀ (hx : xk_go (ik_cr xk_P xk_M xk_Y xk_K X (d + 3)) 57 (9, [some (.ref 3)], [], (xk_R b, I, J)) (some (.int 2)) (xk_R b, I, J)) (hr : ∀ v τ, rk_go (rk_call (d2 + 2)) 15 (78, [some (.ref 0)], [], (rk_R, I2, J2)) v τ → rk_go (rk_call (d2 + 2)) 15 (28, [some (.ref 0)], [], (rk_R, I2, J2)) v τ), ∃ f I' I2' J2', xk_go (ik_cr xk_P xk_M xk_Y xk_K X (d + 3)) 57 (9, [some (.ref 3)], [], (xk_R b, I, J)) (some (.int (nI f))) (xk_R b, I', J) ∧ rk_go (rk_call (d2 + 2)) 15 (5, [some (.ref 0)], [], (rk_R, I2, J2)) none (rk_R, I2', J2') ∧ lb_bad f I' I2' ∧ lb_F I I' ∧ lb_F2 I2 I2' ∧ lb_fJ J2 J2' := fun hx hr =>
        ⟨2, I, ij_u (ij_u I2 0 7 2) 0 8 (I2 0 13), J2, hx, rp_readsCorners_5_0 I2 J2 1 (rs_isGood_y h7) (rp_readsCorners_9_1 I2 J2 1 (by decide) k2r (hr _ _ (rp_readsCorners_78_0 I2 J2 (rs_wrong 2 h7) (rp_readsCorners_83_0 _ J2 0 (rs_isGood_n (by show ¬ (2 : Int32) = 0; decide)) (rp_readsCorners_87_1 _ J2 0 rfl))))), ⟨Or.inr (Or.inl rfl), rfl, r1.trans t1.symm⟩, lb_F_refl I, lb_F2_u (by omega) (lb_F2_u (by omega) (lb_F2_refl I2)), lb_fJ_refl J2⟩
      by_cases hl : i - s ≤ 3
      · rw [if_pos hl] at hv9
        have h314 : ¬ (3 : Int32) < I2 0 14 := by rw [r4]; exact nI_nlt (a := 3) hl (by decide)
        by_cases e1 : v = 1
        · exact Or.inl (hbad (xp_X3_readCorners_9_7 I J k2 h83 (by decide) h83' (by rw [hv9, e1]; rfl)) (fun _ _ => rp_readsCorners_28_2 I2 J2 k2r h178 h314 (by rw [hv2, e1]; rfl)))
        · by_cases e9 : v ≤ 9
          · -- it is a corner
            have hb1 : lb_by n (ij_u (ij_u I 4 c (nI v)) 3 3 (nI (c + 1))) (ij_u (ij_u I2 5 c (nI v)) 0 17 (nI (c + 1))) := hb
            obtain ⟨s', i', k', I', I2', J2', g1, g2, g3, g4, g5, g6⟩ := lb_take (X := X) (d := d) (d2 := d2) (b := b) (J := J) (n := n) (i := i) (ij_u (ij_u I 4 c (nI v)) 3 3 (nI (c + 1))) (ij_u (ij_u I2 5 c (nI v)) 0 17 (nI (c + 1))) J2 t5 hb1 t2 r2
            have e4 : ∀ j, I' 4 j = (ij_u I 4 c (nI v)) 4 j := fun j => g4 4 j (by omega)
            have e5 : ∀ j, I2' 5 j = (ij_u I2 5 c (nI v)) 5 j := fun j => g5 5 j (by omega)
            have hx : ∀ v2 τ, xk_go (ik_cr xk_P xk_M xk_Y xk_K X (d + 3)) 57 (9, [some (.ref 3)], [], (xk_R b, I', J)) v2 τ → xk_go (ik_cr xk_P xk_M xk_Y xk_K X (d + 3)) 57 (9, [some (.ref 3)], [], (xk_R b, I, J)) v2 τ := fun v2 τ hg => by
              have q := xp_X3_readCorners_9_8 (C := ik_cr xk_P xk_M xk_Y xk_K X (d + 3)) (v := v2) (τ := τ) (b := b) I J (b' := b) (I' := I') (J' := J) k2 h83 (by decide) h83' (by rw [hv9]; exact lb_no1 hv e1) (by rw [hv9]; exact nI_le (b := 9) e9 (by decide))
              rw [h3, hv9, nI_clamp (by omega), nI_1] at q
              exact q (vp_in_nI (by omega) (by decide)) g1 (xp_X3_readCorners_84_0 I' J hg)
            have hr : ∀ v2 τ, rk_go (rk_call (d2 + 2)) 15 (5, [some (.ref 0)], [], (rk_R, I2', J2')) v2 τ → rk_go (rk_call (d2 + 2)) 15 (5, [some (.ref 0)], [], (rk_R, I2, J2)) v2 τ := fun v2 τ hg => by
              have q := rp_readsCorners_87_0 (C := rk_call (d2 + 2)) (v := v2) (τ := τ) I2 J2 1 (by decide)
              rw [h17, hv2, nI_clamp (by omega), nI_1] at q
              exact rp_readsCorners_5_0 I2 J2 1 (rs_isGood_y h7) (rp_readsCorners_9_1 I2 J2 1 (by decide) k2r (rp_readsCorners_28_3 I2 J2 k2r h178 h314 (by rw [hv2]; exact lb_no1 hv e1) (by rw [hv2]; exact nI_le (b := 9) e9 (by decide)) (rp_readsCorners_83_0 I2 J2 1 (rs_isGood_y h7) (q (vp_in_nI (by omega) (by decide)) g2 (rp_readsCorners_118_0 I2' J2' hg)))))
            have fx : lb_F I I' := lb_F_trans (lb_F_u (by omega) (lb_F_u (by omega) (lb_F_refl I))) (lb_F_of g4)
            have fr : lb_F2 I2 I2' := lb_F2_trans (lb_F2_u (by omega) (lb_F2_u (by omega) (lb_F2_refl I2))) (lb_F2_of g5)
            have step := ih (c + 1) I' I2' J2' s' i' k' (by omega) (lb_by_fr g4 g5 hb1) g3 (g4 3 3 (by omega)) (g5 0 17 (by omega)) ((g5 0 7 (by omega)).trans h7) (fun j hj => by
              rw [e4 j, e5 j]
              by_cases e : j = c
              · subst e
                rw [ij_u_same, ij_u_same]
                exact ⟨v, by omega, rfl, rfl⟩
              · rw [ij_u_other _ _ _ _ e, ij_u_other _ _ _ _ e]
                exact hrow j (by omega)) (fun j hj => by
              rw [e4 j]
              by_cases e : j = c
              · subst e
                rw [ij_u_same]
                exact lb_no1 hv e1
              · rw [ij_u_other _ _ _ _ e]
                exact hno j (by omega))
            rcases step with ⟨f, Ia, I2a, J2a, z1, z2, z3, z4, z5, z6⟩ | ⟨c', sa, ia, ka, Ia, I2a, J2a, z1, z2, ⟨z3, z3', z3'', hcc⟩, z4, z5, z6, z7, z8, z9, z10, z11, z12, z13, z14, z15, z16, z17⟩
            · exact Or.inl ⟨f, Ia, I2a, J2a, hx _ _ z1, hr _ _ z2, z3, lb_F_trans fx z4, lb_F2_trans fr z5, lb_fJ_trans g6 z6⟩
            · refine Or.inr ⟨c', sa, ia, ka, Ia, I2a, J2a, fun v2 τ hg => hx _ _ (z1 v2 τ hg), hr _ _ z2, ⟨z3, z3', z3'', by omega⟩, z4, z5, z6, z7, z8, z9, z10, ?_, lb_F_trans fx z12, lb_F2_trans fr z13, lb_fJ_trans g6 z14, z15.trans (g5 0 18 (by omega)), z16.trans (funext (fun j => g5 6 j (by omega))), z17.trans (g5 0 8 (by omega))⟩
              intro j hj
              rw [z11 j hj, e5 j, ij_u_other _ _ _ _ (by omega)]
          · exact Or.inl (hbad (xp_X3_readCorners_9_9 I J k2 h83 (by decide) h83' (by rw [hv9]; exact lb_no1 hv e1) (by rw [hv9]; exact nI_ge (a := 9) (by omega) (by omega))) (fun _ _ => rp_readsCorners_28_4 I2 J2 k2r h178 h314 (by rw [hv2]; exact lb_no1 hv e1) (by rw [hv2]; exact nI_ge (a := 9) (by omega) (by omega))))
      · rw [if_neg hl] at hv9
        exact Or.inl (hbad (xp_X3_readCorners_9_9 I J k2 h83 (by decide) h83' (by rw [hv9]; decide) (by rw [hv9]; decide)) (fun _ _ => rp_readsCorners_28_1 I2 J2 k2r h178 (by rw [r4]; exact nI_lt (a := 3) (by omega) (by have := hb.1; omega))))
    · have nk2 : ¬ I 3 8 = 2 := by rw [t3]; exact fun q => hk ((nI_eq (b := 2) (by omega) (by decide)).mp q)
      have nk2r : ¬ I2 0 12 = 2 := by rw [r3]; exact fun q => hk ((nI_eq (b := 2) (by omega) (by decide)).mp q)
      by_cases hc3 : 3 ≤ c
      · refine Or.inr ⟨c, s, i, k, I, I2, J2, fun _ _ hg => hg, ?_, ⟨hc3, by omega, hk, Nat.le_refl _⟩, hb, ht, h3, h17, h7, hrow, hno, fun _ _ => rfl, lb_F_refl I, lb_F2_refl I2, lb_fJ_refl J2, rfl, rfl, rfl⟩
        exact rp_readsCorners_5_0 I2 J2 1 (rs_isGood_y h7) (rp_readsCorners_9_2 I2 J2 1 (by decide) nk2r (by rw [h17]; exact nI_le (a := 3) hc3 (by omega)))
      · have h33 : ¬ (3 : Int32) ≤ I 3 3 := by rw [h3]; exact nI_ge (b := 3) (by omega) (by decide)
        refine Or.inl ⟨1, I, ij_u (ij_u I2 0 7 1) 0 8 (I2 0 13), J2, ?_, ?_, ⟨Or.inl rfl, rfl, r1.trans t1.symm⟩, lb_F_refl I, lb_F2_u (by omega) (lb_F2_u (by omega) (lb_F2_refl I2)), lb_fJ_refl J2⟩
        · by_cases e3 : I 3 8 = 3
          · exact xp_X3_readCorners_9_2 I J nk2 e3 h33
          · exact xp_X3_readCorners_9_0 I J nk2 e3
        · exact rp_readsCorners_5_0 I2 J2 1 (rs_isGood_y h7) (rp_readsCorners_9_3 I2 J2 1 (by decide) nk2r (by rw [h17]; exact nI_ge (b := 3) (by omega) (by decide)) (rp_readsCorners_28_5 I2 J2 nk2r (rs_wrong 1 h7) (rp_readsCorners_41_0 _ J2 (rp_readsCorners_83_0 _ J2 0 (rs_isGood_n (by show ¬ (1 : Int32) = 0; decide)) (rp_readsCorners_87_1 _ J2 0 rfl)))))
end LB4
