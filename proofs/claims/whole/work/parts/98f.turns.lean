/-! ===== board: the ant's turns ===== -/
section LB5
variable {X : ij_R} {d d2 n : Nat} {b : Bool} {J : Nat → Nat → Int64}
/-- what reading turns leaves as it was -/
def lb_kc (I I2 I' I2' : Nat → Nat → Int32) : Prop := I' 4 = I 4 ∧ I' 3 3 = I 3 3 ∧ I2' 5 = I2 5 ∧ I2' 0 17 = I2 0 17 ∧ I2' 0 8 = I2 0 8
theorem lb_kc_refl (I I2 : Nat → Nat → Int32) : lb_kc I I2 I I2 := ⟨rfl, rfl, rfl, rfl, rfl⟩
theorem lb_kc_trans {I I2 I' I2' I'' I2'' : Nat → Nat → Int32} (h : lb_kc I I2 I' I2') (h' : lb_kc I' I2' I'' I2'') : lb_kc I I2 I'' I2'' := ⟨h'.1.trans h.1, h'.2.1.trans h.2.1, h'.2.2.1.trans h.2.2.1, h'.2.2.2.1.trans h.2.2.2.1, h'.2.2.2.2.trans h.2.2.2.2⟩
/-- the turns, from the c-th on -/
theorem lb_al : ∀ (r c : Nat) (I I2 : Nat → Nat → Int32) (J2 : Nat → Nat → Int64) (s i k : Nat), c + r = 8 → lb_by n I I2 → lb_tk n I I2 J2 s i k → I 3 4 = nI c → I2 0 18 = nI c → I2 0 7 = 0 → lb_row 8 c 5 6 I I2 →
    (∃ f I' I2' J2', xk_go (ik_cr xk_P xk_M xk_Y xk_K X (d + 3)) 60 (20, [some (.ref 3)], [], (xk_R b, I, J)) (some (.int (nI f))) (xk_R b, I', J) ∧ rk_go (rk_call (d2 + 2)) 16 (5, [some (.ref 0)], [], (rk_R, I2, J2)) none (rk_R, I2', J2') ∧ lb_bad f I' I2' ∧ lb_F I I' ∧ lb_F2 I2 I2' ∧ lb_fJ J2 J2') ∨
    (∃ c' s' i' k' I' I2' J2', (∀ v τ, xk_go (ik_cr xk_P xk_M xk_Y xk_K X (d + 3)) 60 (20, [some (.ref 3)], [], (xk_R b, I', J)) v τ → xk_go (ik_cr xk_P xk_M xk_Y xk_K X (d + 3)) 60 (20, [some (.ref 3)], [], (xk_R b, I, J)) v τ) ∧ rk_go (rk_call (d2 + 2)) 16 (5, [some (.ref 0)], [], (rk_R, I2, J2)) none (rk_R, I2', J2') ∧ (1 ≤ c' ∧ c' ≤ 8 ∧ k' ≠ 2) ∧ lb_by n I' I2' ∧ lb_tk n I' I2' J2' s' i' k' ∧ I' 3 4 = nI c' ∧ I2' 0 18 = nI c' ∧ I2' 0 7 = 0 ∧ lb_row 8 c' 5 6 I' I2' ∧ lb_kc I I2 I' I2' ∧ lb_F I I' ∧ lb_F2 I2 I2' ∧ lb_fJ J2 J2') := by
  intro r
  induction r with
  | zero =>
    intro c I I2 J2 s i k hc hb ht h3 h17 h7 hrow
    have : c = 8 := by omega
    subst this
    have ht' := ht
    obtain ⟨⟨t1, t2, t3⟩, ⟨r1, r2, r3, r4⟩, ⟨t4, t5, t6⟩, tn, tw⟩ := ht'
    by_cases hk : k = 2
    · refine Or.inl ⟨2, I, ij_u (ij_u I2 0 7 2) 0 8 (I2 0 13), J2, ?_, ?_, ⟨Or.inr (Or.inl rfl), rfl, r1.trans t1.symm⟩, lb_F_refl I, lb_F2_u (by omega) (lb_F2_u (by omega) (lb_F2_refl I2)), lb_fJ_refl J2⟩
      · exact xp_X3_readAnt_20_6 I J (by rw [t3, hk]; rfl) (by rw [h3]; decide) (by decide) (by rw [h3]; decide)
      · exact rp_readsAnt_5_0 I2 J2 1 (rs_isGood_y h7) (rp_readsAnt_9_1 I2 J2 1 (by decide) (by rw [r3, hk]; rfl) (rp_readsAnt_27_0 I2 J2 (by rw [r3, hk]; rfl) h17 (rp_readsAnt_69_0 I2 J2 (rs_wrong 2 h7) (rp_readsAnt_74_0 _ J2 0 (rs_isGood_n (by show ¬ (2 : Int32) = 0; decide)) (rp_readsAnt_78_1 _ J2 0 rfl)))))
    · refine Or.inr ⟨8, s, i, k, I, I2, J2, fun _ _ hg => hg, ?_, ⟨by decide, by decide, hk⟩, hb, ht, h3, h17, h7, hrow, lb_kc_refl I I2, lb_F_refl I, lb_F2_refl I2, lb_fJ_refl J2⟩
      exact rp_readsAnt_5_0 I2 J2 1 (rs_isGood_y h7) (rp_readsAnt_9_2 I2 J2 1 (by decide) (by rw [r3]; exact fun q => hk ((nI_eq (b := 2) (by omega) (by decide)).mp q)) (by rw [h17]; decide))
  | succ r ih =>
    intro c I I2 J2 s i k hc hb ht h3 h17 h7 hrow
    have ht' := ht
    obtain ⟨⟨t1, t2, t3⟩, ⟨r1, r2, r3, r4⟩, ⟨t4, t5, t6⟩, tn, tw⟩ := ht'
    have h83 : ¬ (8 : Int32) < I 3 4 := by rw [h3]; exact nI_nlt (a := 8) (by omega) (by decide)
    have h83' : ¬ (8 : Int32) ≤ I 3 4 := by rw [h3]; exact nI_ge (b := 8) (by omega) (by decide)
    have h178 : ¬ I2 0 18 = 8 := by rw [h17]; exact fun q => absurd ((nI_eq (b := 8) (by omega) (by decide)).mp q) (by omega)
    by_cases hk : k = 2
    · have k2 : I 3 8 = 2 := by rw [t3, hk]; rfl
      have k2r : I2 0 12 = 2 := by rw [r3, hk]; rfl
      obtain ⟨v, hv, hv2, hv9⟩ := tn hk
      have hbad : ∀ (hx : xk_go (ik_cr xk_P xk_M xk_Y xk_K X (d + 3)) 60 (20, [some (.ref 3)], [], (xk_R b, I, J)) (some (.int 2)) (xk_R b, I, J)) (hr : ∀ v τ, rk_go (rk_call (d2 + 2)) 16 (69, [some (.ref 0)], [], (rk_R, I2, J2)) v τ → rk_go (rk_call (d2 + 2)) 16 (27, [some (.ref 0)], [], (rk_R, I2, J2)) v τ), ∃ f I' I2' J2', xk_go (ik_cr xk_P xk_M xk_Y xk_K X (d + 3)) 60 (20, [some (.ref 3)], [], (xk_R b, I, J)) (some (.int (nI f))) (xk_R b, I', J) ∧ rk_go (rk_call (d2 + 2)) 16 (5, [some (.ref 0)], [], (rk_R, I2, J2)) none (rk_R, I2', J2') ∧ lb_bad f I' I2' ∧ lb_F I I' ∧ lb_F2 I2 I2' ∧ lb_fJ J2 J2' := fun hx hr =>
        ⟨2, I, ij_u (ij_u I2 0 7 2) 0 8 (I2 0 13), J2, hx, rp_readsAnt_5_0 I2 J2 1 (rs_isGood_y h7) (rp_readsAnt_9_1 I2 J2 1 (by decide) k2r (hr _ _ (rp_readsAnt_69_0 I2 J2 (rs_wrong 2 h7) (rp_readsAnt_74_0 _ J2 0 (rs_isGood_n (by show ¬ (2 : Int32) = 0; decide)) (rp_readsAnt_78_1 _ J2 0 rfl))))), ⟨Or.inr (Or.inl rfl), rfl, r1.trans t1.symm⟩, lb_F_refl I, lb_F2_u (by omega) (lb_F2_u (by omega) (lb_F2_refl I2)), lb_fJ_refl J2⟩
      by_cases hl : i - s ≤ 3
      · rw [if_pos hl] at hv9
        have h314 : ¬ (3 : Int32) < I2 0 14 := by rw [r4]; exact nI_nlt (a := 3) hl (by decide)
        by_cases e9 : v ≤ 7
        · have hb1 : lb_by n (ij_u (ij_u I 5 c (nI v)) 3 4 (nI (c + 1))) (ij_u (ij_u I2 6 c (nI v)) 0 18 (nI (c + 1))) := hb
          obtain ⟨s', i', k', I', I2', J2', g1, g2, g3, g4, g5, g6⟩ := lb_take (X := X) (d := d) (d2 := d2) (b := b) (J := J) (n := n) (i := i) (ij_u (ij_u I 5 c (nI v)) 3 4 (nI (c + 1))) (ij_u (ij_u I2 6 c (nI v)) 0 18 (nI (c + 1))) J2 t5 hb1 t2 r2
          have e4 : ∀ j, I' 5 j = (ij_u I 5 c (nI v)) 5 j := fun j => g4 5 j (by omega)
          have e5 : ∀ j, I2' 6 j = (ij_u I2 6 c (nI v)) 6 j := fun j => g5 6 j (by omega)
          have hx : ∀ v2 τ, xk_go (ik_cr xk_P xk_M xk_Y xk_K X (d + 3)) 60 (20, [some (.ref 3)], [], (xk_R b, I', J)) v2 τ → xk_go (ik_cr xk_P xk_M xk_Y xk_K X (d + 3)) 60 (20, [some (.ref 3)], [], (xk_R b, I, J)) v2 τ := fun v2 τ hg => by
            have q := xp_X3_readAnt_20_7 (C := ik_cr xk_P xk_M xk_Y xk_K X (d + 3)) (v := v2) (τ := τ) (b := b) I J (b' := b) (I' := I') (J' := J) k2 h83 (by decide) h83' (by rw [hv9]; exact nI_le (b := 7) e9 (by decide))
            rw [h3, hv9, nI_clamp (by omega), nI_1] at q
            exact q (vp_in_nI (by omega) (by decide)) g1 (xp_X3_readAnt_87_0 I' J hg)
          have hr : ∀ v2 τ, rk_go (rk_call (d2 + 2)) 16 (5, [some (.ref 0)], [], (rk_R, I2', J2')) v2 τ → rk_go (rk_call (d2 + 2)) 16 (5, [some (.ref 0)], [], (rk_R, I2, J2)) v2 τ := fun v2 τ hg => by
            have q := rp_readsAnt_78_0 (C := rk_call (d2 + 2)) (v := v2) (τ := τ) I2 J2 1 (by decide)
            rw [h17, hv2, nI_clamp (by omega), nI_1] at q
            exact rp_readsAnt_5_0 I2 J2 1 (rs_isGood_y h7) (rp_readsAnt_9_1 I2 J2 1 (by decide) k2r (rp_readsAnt_27_2 I2 J2 k2r h178 h314 (by rw [hv2]; exact nI_le (b := 7) e9 (by decide)) (rp_readsAnt_74_0 I2 J2 1 (rs_isGood_y h7) (q (vp_in_nI (by omega) (by decide)) g2 (rp_readsAnt_109_0 I2' J2' hg)))))
          have fx : lb_F I I' := lb_F_trans (lb_F_u (by omega) (lb_F_u (by omega) (lb_F_refl I))) (lb_F_of g4)
          have fr : lb_F2 I2 I2' := lb_F2_trans (lb_F2_u (by omega) (lb_F2_u (by omega) (lb_F2_refl I2))) (lb_F2_of g5)
          have fk : lb_kc I I2 I' I2' := ⟨funext (fun j => g4 4 j (by omega)), g4 3 3 (by omega), funext (fun j => g5 5 j (by omega)), g5 0 17 (by omega), g5 0 8 (by omega)⟩
          have step := ih (c + 1) I' I2' J2' s' i' k' (by omega) (lb_by_fr g4 g5 hb1) g3 (g4 3 4 (by omega)) (g5 0 18 (by omega)) ((g5 0 7 (by omega)).trans h7) (fun j hj => by
            rw [e4 j, e5 j]
            by_cases e : j = c
            · subst e
              rw [ij_u_same, ij_u_same]
              exact ⟨v, by omega, rfl, rfl⟩
            · rw [ij_u_other _ _ _ _ e, ij_u_other _ _ _ _ e]
              exact hrow j (by omega))
          rcases step with ⟨f, Ia, I2a, J2a, z1, z2, z3, z4, z5, z6⟩ | ⟨c', sa, ia, ka, Ia, I2a, J2a, z1, z2, z3, z4, z5, z6, z7, z8, z9, z10, z12, z13, z14⟩
          · exact Or.inl ⟨f, Ia, I2a, J2a, hx _ _ z1, hr _ _ z2, z3, lb_F_trans fx z4, lb_F2_trans fr z5, lb_fJ_trans g6 z6⟩
          · exact Or.inr ⟨c', sa, ia, ka, Ia, I2a, J2a, fun v2 τ hg => hx _ _ (z1 v2 τ hg), hr _ _ z2, z3, z4, z5, z6, z7, z8, z9, lb_kc_trans fk z10, lb_F_trans fx z12, lb_F2_trans fr z13, lb_fJ_trans g6 z14⟩
        · exact Or.inl (hbad (xp_X3_readAnt_20_8 I J k2 h83 (by decide) h83' (by rw [hv9]; exact nI_ge (a := 7) (by omega) (by omega))) (fun _ _ => rp_readsAnt_27_3 I2 J2 k2r h178 h314 (by rw [hv2]; exact nI_ge (a := 7) (by omega) (by omega))))
      · rw [if_neg hl] at hv9
        exact Or.inl (hbad (xp_X3_readAnt_20_8 I J k2 h83 (by decide) h83' (by rw [hv9]; decide)) (fun _ _ => rp_readsAnt_27_1 I2 J2 k2r h178 (by rw [r4]; exact nI_lt (a := 3) (by omega) (by have := hb.1; omega))))
    · have nk2 : ¬ I 3 8 = 2 := by rw [t3]; exact fun q => hk ((nI_eq (b := 2) (by omega) (by decide)).mp q)
      have nk2r : ¬ I2 0 12 = 2 := by rw [r3]; exact fun q => hk ((nI_eq (b := 2) (by omega) (by decide)).mp q)
      by_cases hc3 : 1 ≤ c
      · refine Or.inr ⟨c, s, i, k, I, I2, J2, fun _ _ hg => hg, ?_, ⟨hc3, by omega, hk⟩, hb, ht, h3, h17, h7, hrow, lb_kc_refl I I2, lb_F_refl I, lb_F2_refl I2, lb_fJ_refl J2⟩
        exact rp_readsAnt_5_0 I2 J2 1 (rs_isGood_y h7) (rp_readsAnt_9_2 I2 J2 1 (by decide) nk2r (by rw [h17]; exact nI_ne0 hc3 (by omega)))
      · have c0 : c = 0 := by omega
        have h33 : I 3 4 = 0 := by rw [h3, c0]; rfl
        refine Or.inl ⟨1, I, ij_u (ij_u I2 0 7 1) 0 8 (I2 0 13), J2, ?_, ?_, ⟨Or.inl rfl, rfl, r1.trans t1.symm⟩, lb_F_refl I, lb_F2_u (by omega) (lb_F2_u (by omega) (lb_F2_refl I2)), lb_fJ_refl J2⟩
        · by_cases e3 : I 3 8 = 3
          · exact xp_X3_readAnt_20_2 I J nk2 e3 h33
          · exact xp_X3_readAnt_20_0 I J nk2 e3
        · exact rp_readsAnt_5_0 I2 J2 1 (rs_isGood_y h7) (rp_readsAnt_9_3 I2 J2 1 (by decide) nk2r (by rw [h17, c0]; rfl) (rp_readsAnt_27_4 I2 J2 nk2r (rs_wrong 1 h7) (rp_readsAnt_40_0 _ J2 (rp_readsAnt_74_0 _ J2 0 (rs_isGood_n (by show ¬ (1 : Int32) = 0; decide)) (rp_readsAnt_78_1 _ J2 0 rfl)))))
end LB5
