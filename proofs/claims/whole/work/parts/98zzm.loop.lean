/-! ===== laying a board: ring by ring (2) ===== -/
section JT4
variable {X : ij_R} {d e p : Nat} {b : Bool} {cs : Nat → Nat} {Q : pg_Q}
theorem jt_lay (hp3 : 3 ≤ p) (hQ : pg_ok p cs Q) : ∀ (r G fr n : Nat) (ac : Nat → Nat → Nat) (rg : Nat → Nat) (V1 V2 : Nat → Nat → Nat) (I : Nat → Nat → Int32) (J : Nat → Nat → Int64) (I2 : Nat → Nat → Int32) (J2 : Nat → Nat → Int64), G + r = 63 → jt p cs Q n ac rg V1 V2 fr 0 I J I2 J2 → rg 0 = 0 → (∀ x, x < fr → rg x < G) → (∀ x, fr ≤ x → x < n → rg x = G) → I 6 10 = nI G → I2 0 22 = nI G → (∀ k, k ≤ G → I 13 k = I2 13 k) →
    ∃ (T M : Nat) (ac' : Nat → Nat → Nat) (rg' : Nat → Nat) (I' : Nat → Nat → Int32) (J' : Nat → Nat → Int64) (I2' : Nat → Nat → Int32) (J2' : Nat → Nat → Int64), xk_go (ik_cr xk_P xk_M xk_Y xk_K X (d + 5)) 28 (62, [some (.ref 6), none, none, some (.int (nI fr)), some (.int 1), some (.int (nI (G + 1))), none], [], (xk_R b, I, J)) none (xk_R b, I', J') ∧ (∀ v τ, rk_go (rk_call (e + 3)) 29 (248, [some (.ref 0), none, none, none, some (.int 0), none], [], (rk_R, I2', J2')) v τ → rk_go (rk_call (e + 3)) 29 (129, [some (.ref 0), none, some (.int (nI fr)), some (.int (nI n)), none, none], [], (rk_R, I2, J2)) v τ) ∧ pf_t p T M ac' rg' I' J' I2' J2' ∧ pf_fr I J I2 J2 I' J' I2' J2' := by
  intro r
  induction r with
  | zero =>
    intro G fr n ac rg V1 V2 I J I2 J2 hr hj g0 g1 g2 h10 h22 h13
    obtain ⟨⟨htn, _, h63, _⟩, _⟩ := hQ.2 n ac rg V1 V2 fr 0 hj.1
    have := g2 fr (Nat.le_refl _) htn
    omega
  | succ r ih =>
    intro G fr n ac rg V1 V2 I J I2 J2 hr hj g0 g1 g2 h10 h22 h13
    obtain ⟨⟨htn, _, h63, _⟩, _⟩ := hQ.2 n ac rg V1 V2 fr 0 hj.1
    have n2 : n ≤ 2000 := hj.2.1.1.2.1
    have p8 : p ≤ 8 := hj.2.1.1.1
    have h9 : I 6 9 = nI n := hj.2.1.1.2.2.2.1
    have hG : G < 63 := by omega
    obtain ⟨w, t', s', n', ac', rg', V1', V2', I', J', I2', J2', hw, k1, k2, k3, k4, k5⟩ := jt_ring (X := X) (d := d) (e := e) (b := b) hp3 hQ (Nat.le_of_lt htn) n2 g2 hj
    have h9' : I' 6 9 = nI n' := k1.2.1.1.2.2.2.1
    have q10 : I' 6 10 = nI G := (k3.1.1 6 10 (by omega) (by omega) (by omega) (by omega)).trans h10
    have q22 : I2' 0 22 = nI G := (k3.2.1 0 22 (by omega) (by omega) (by omega)).trans h22
    have q13 : ∀ k, k ≤ G → I' 13 k = I2' 13 k := fun k hk => by
      rw [k3.1.1 13 k (by omega) (by omega) (by omega) (by omega), k3.2.1 13 k (by omega) (by omega) (by omega)]
      exact h13 k hk
    have g0' : rg' 0 = 0 := (k2.2.1 0 (by omega)).trans g0
    have cx : ∀ v τ, xk_go (ik_cr xk_P xk_M xk_Y xk_K X (d + 5)) 28 (90, [some (.ref 6), none, none, some (.int (nI fr)), none, some (.int (nI (G + 1))), some (.int (nI n))], [.int w], (xk_R b, I', J')) v τ → xk_go (ik_cr xk_P xk_M xk_Y xk_K X (d + 5)) 28 (62, [some (.ref 6), none, none, some (.int (nI fr)), some (.int 1), some (.int (nI (G + 1))), none], [], (xk_R b, I, J)) v τ := fun v τ z => by
      refine xp_X2_lay_4_62_2 (b' := b) (I' := I') (J' := J') I J _ _ _ w (by decide) (nI_ge (b := 64) (by omega) (by decide)) (by decide) ?_ ?_
      · rw [h9]; exact k4
      · rw [h9]; exact z
    have cr : ∀ v τ, rk_go (rk_call (e + 3)) 29 (141, [some (.ref 0), none, some (.int (nI fr)), some (.int (nI n)), none, none], [.int w], (rk_R, I2', J2')) v τ → rk_go (rk_call (e + 3)) 29 (129, [some (.ref 0), none, some (.int (nI fr)), some (.int (nI n)), none, none], [], (rk_R, I2, J2)) v τ := fun v τ z => by
      refine rp_lays_129_0 I2 J2 _ _ w (I' := I2') (J' := J2') ?_ z
      rw [h22, nI_1]; exact k5
    rcases hw with ⟨w1, e1, e2⟩ | ⟨w0, e1, e2, e3, e4⟩
    · subst w1
      subst e1
      subst e2
      have h21' : I2' 0 21 = nI n' := (k1.2.2.1.elim fun tb z => z.1.2.2.2.1)
      have ln := (hQ.2 n' ac' rg' V1' V2' t' 0 k1.1).1.1
      have jt' := jt_fr (I' := ij_u (ij_u I' 13 (G + 1) (nI n' - nI t')) 6 10 (nI (G + 1))) (I2' := ij_u (ij_u I2' 0 22 (nI (G + 1))) 13 (G + 1) (nI n' - nI t')) k1 (fun q k a c => by
        by_cases e6 : q = 6
        · subst e6
          rw [ij_u_other _ _ _ _ (by omega), ij_u_ne (by decide)]
        · rw [ij_u_ne e6, ij_u_ne a]) (fun q k a c => by
        rw [ij_u_ne a]
        by_cases e6 : q = 0
        · subst e6
          rw [ij_u_other _ _ _ _ (by omega)]
        · rw [ij_u_ne e6])
      obtain ⟨T, M, ac3, rg3, I3, J3, I23, J23, l1, l2, l3, l4⟩ := ih (G + 1) t' n' ac' rg' V1' V2' _ J' _ J2' (by omega) jt' g0' (fun x hx => by
        rw [k2.2.1 x hx]
        by_cases c : x < fr
        · have := g1 x c; omega
        · have := g2 x (by omega) hx; omega) k2.2.2 (by rw [ij_u_same]) (by rw [ij_u_ne (by decide), ij_u_same]) (fun k hk => by
        rw [ij_u_ne (by decide)]
        by_cases c : k = G + 1
        · rw [c, ij_u_same, ij_u_same]
        · rw [ij_u_other _ _ _ _ c, ij_u_other _ _ _ _ c, ij_u_ne (by decide)]
          exact q13 k (by omega))
      refine ⟨T, M, ac3, rg3, I3, J3, I23, J23, cx _ _ ?_, fun v τ z => cr _ _ ?_, l3, pf_fr_trans (jf_pf k3) (pf_fr_trans ?_ l4)⟩
      · refine xp_X2_lay_4_90_1 I' J' _ _ _ _ (by decide) (vp_in_nI (by omega) (by decide)) ?_
        rw [nI_clamp (by omega), nI_1, h9']
        exact l1
      · refine rp_lays_141_1 I2' J2' _ _ _ (by decide) (by rw [q22, nI_1]; exact vp_in_nI (by omega) (by decide)) ?_
        rw [q22, nI_1, nI_clamp (by omega), h21']
        exact l2 v τ z
      · refine ⟨fun q k a c f => ?_, fun _ _ => rfl, fun q k a c f => ?_, fun _ _ => rfl⟩
        · by_cases e6 : q = 6
          · subst e6
            rw [ij_u_other _ _ _ _ (by omega), ij_u_ne (by decide)]
          · rw [ij_u_ne e6, ij_u_ne c]
        · rw [ij_u_ne (by omega)]
          by_cases e6 : q = 0
          · subst e6
            rw [ij_u_other _ _ _ _ (by omega)]
          · rw [ij_u_ne e6]
    · subst w0
      subst e1
      obtain ⟨I3, m1, m2, m3, m4⟩ := lx_takeBack (X := X) (d := d + 4) (b := b) (J := J') (I := I') (f := fr) (n := n) (Nat.le_of_lt htn) n2
      obtain ⟨I4, u1, u2, u3, u4⟩ := rs_lays179 (C := rk_call (e + 3)) (J := J2') (p := p) (n := n) p8 n2 (n - fr) fr I2' (by omega) (k1.2.2.1.elim fun tb z => z.1.2.2.1)
      refine ⟨n, G, _, rg', I3, J', ij_u I4 0 21 (nI n), J2', cx _ _ ?_, fun v τ z => cr _ _ ?_, jt_cut hp3 hQ k1 e2 e3 n2 hG g0' (fun x hx => ?_) (fun x a c => ?_) k2.2.2 q10 q22 q13 m2 m3 m4 (by rw [ij_u_same]) (fun x y a c f => ?_) (fun x y a c => ?_) (fun q k a c => ?_), pf_fr_trans (jf_pf k3) ?_⟩
      · refine xp_X2_lay_4_90_0 (b' := b) (I' := I3) (J' := J') I' J' _ _ _ _ rfl m1 (xp_X2_lay_4_130_0 I3 J' _ _ _ ?_)
        by_cases c : (64 : Int32) ≤ nI (G + 1) + 1
        · exact xp_X2_lay_4_62_0 I3 J' _ _ _ (by decide) c
        · exact xp_X2_lay_4_62_1 I3 J' _ _ _ (by decide) c rfl
      · exact rp_lays_141_0 I2' J2' _ _ _ rfl (u1 v τ z)
      · rw [k2.2.1 x (by omega)]; exact g1 x hx
      · rw [k2.2.1 x c]; exact g2 x a c
      · rw [ij_u_ne (by decide)]; exact u2 x y a c f
      · rw [ij_u_ne (by decide)]; exact u3 x y a c
      · by_cases e6 : q = 0
        · subst e6
          rw [ij_u_other _ _ _ _ (by omega), u4 0 (by decide)]
        · rw [ij_u_ne e6, u4 q a]
      · refine ⟨fun q k a c f => m4 q k (by omega) (by omega), fun _ _ => rfl, fun q k a c f => ?_, fun _ _ => rfl⟩
        by_cases e6 : q = 0
        · subst e6
          rw [ij_u_other _ _ _ _ (by omega), u4 0 (by decide)]
        · rw [ij_u_ne e6, u4 q (by omega)]
end JT4
