/-! ===== R: all calls, over what must be known of a board ===== -/
theorem lq_side' {X : ij_R} {d : Nat} {R : lk_Rl} (hf : lk_free R) (h : ∀ b I J I2 J2, R b I J I2 J2 → ∃ p : Nat, p ≤ 8 ∧ I 6 8 = nI p ∧ I2 0 1 = nI p ∧ ∀ k, k < p → I 8 k = I2 22 k) : lk_q_side X (d + 3) R := by
  intro x b I J I2 J2 hR
  obtain ⟨p, p8, h1, h2, h3⟩ := h b I J I2 J2 hR
  by_cases hx : ¬ x < 0 ∧ ¬ I2 0 1 ≤ x
  · obtain ⟨j, j1, j2⟩ := nI_of hx.1
    have jp : j < p := by
      by_cases e : j < p
      · exact e
      · exact absurd (show I2 0 1 ≤ x by rw [h2, j2]; exact nI_le (by omega) j1) hx.2
    have g1 : ¬ (8 : Int32) ≤ x := by rw [j2]; exact nI_ge (b := 8) (by omega) (by decide)
    have g2 : vp_in x 8 := by rw [j2]; exact vp_in_nI (by omega) (by decide)
    refine Or.inl ⟨I 8 x.toNatClampNeg, b, I, J, ij_u I2 0 0 0, J2, lx_side_y x (by rw [h1, ← h2]; exact hx) g1, ?_, rfl, hf b I J I2 J2 0 hR⟩
    have e8 : I 8 x.toNatClampNeg = I2 22 x.toNatClampNeg := by rw [j2, nI_clamp j1]; exact h3 j jp
    rw [e8]
    exact rs_side_y (d + 1) I2 J2 x g2 hx
  · exact Or.inr ⟨0, b, I, J, ij_u (ij_u I2 0 0 0) 0 0 1, J2, lx_side_n x (by rw [h1, ← h2]; exact hx), rs_side_n (d + 1) I2 J2 x hx, rfl, hf b I J _ J2 1 (hf b I J I2 J2 0 hR)⟩
/-- what must be known of all boards -/
def pg_all : Prop := ∀ (p : Nat) (cs : Nat → Nat), 3 ≤ p → p ≤ 8 → (∀ j, j < p → cs j < 10 ∧ cs j ≠ 1) → lb_sum cs p < 2520 * (p - 2) → ∃ Q, pg_ok p cs Q
/-- R behind a board laid anew -/
theorem wr_laid {p c q : Nat} {cs : Nat → Nat} {b : Bool} {I : Nat → Nat → Int32} {J : Nat → Nat → Int64} {I2 : Nat → Nat → Int32} {J2 : Nat → Nat → Int64} {I' : Nat → Nat → Int32} {J' : Nat → Nat → Int64} {I2' : Nat → Nat → Int32} {J2' : Nat → Nat → Int64} (hp3 : 3 ≤ p) (hp : p ≤ 8) (hcs : ∀ j, j < p → cs j < 10 ∧ cs j ≠ 1) (hc : 1 ≤ c ∧ c ≤ 8) (h : lay_t p cs I J I2 J2 I' J' I2' J2') (e34 : I 3 4 = nI c) (e02 : I2 0 2 = nI c) (e1 : ∀ j, j < 8 → I2 1 j = if j < p then nI (cs j) else 0) (e5 : lb_row 8 c 5 2 I I2) (h23 : cb_xc I) (h63 : I2 0 63 = nI q) (hq : q < 1000) (ho : wr_O I I2) (hk : wr_K I I2) : wr_R b I' J' (ij_u I2' 0 67 0) J2' := by
  obtain ⟨⟨T, M, ac, rg, h1⟩, h2, ⟨h3, h4⟩, h5, h6, h7, ⟨k1, k2, ⟨k3, k4, k5, k6⟩, ⟨k7, k8, k9, k10⟩, k11, k12⟩, f1, f2, f3, f4⟩ := h
  have T0 : 0 < T := h1.1.2.1
  have u : ∀ q k, ¬ (q = 0 ∧ k = 67) → ij_u I2' 0 67 0 q k = I2' q k := fun q k hqk => by
    by_cases e : q = 0
    · subst e; exact ij_u_other _ _ _ _ (by omega)
    · rw [ij_u_ne e]
  have hcs' : ∀ j, j < p → cs j < 10 := fun j hj => (hcs j hj).1
  have tn : ∃ tn : Nat → Nat, ∀ k, k < c → I 5 k = nI (tn k) ∧ I2 2 k = nI (tn k) ∧ tn k < 8 := ⟨fun k => (I 5 k).toNatClampNeg, fun k hk => by
    obtain ⟨v, v1, v2, v3⟩ := e5 k hk
    show I 5 k = nI (I 5 k).toNatClampNeg ∧ I2 2 k = nI (I 5 k).toNatClampNeg ∧ (I 5 k).toNatClampNeg < 8
    rw [v2, nI_clamp (by omega)]
    exact ⟨rfl, v3, v1⟩⟩
  obtain ⟨tn, htn⟩ := tn
  have S0 : wr_S p c T M cs tn rg ac I' J' I2' J2' := by
    refine ⟨⟨hp3, hp, hcs⟩, h1, ⟨h2, fun j hj => ?_⟩, ⟨fun j hj => (h3 j hj).1, h4⟩, h5, hc, k12.trans e34, ?_, fun k hk => ?_⟩
    · rw [f3 1 j (by omega) (by omega) (by omega) (by omega) (by omega)]; exact e1 j hj
    · rw [f3 0 2 (by omega) (by omega) (by omega) (by omega) (by omega)]; exact e02
    · rw [k1 k (by omega), f3 2 k (by omega) (by omega) (by omega) (by omega) (by omega)]; exact htn k hk
  refine ⟨p, c, T, M, cs, tn, rg, ac, wr_S_fr S0 (fun _ _ _ => rfl) rfl rfl (fun q k hh => u q k (by omega)) rfl, Or.inl h6, ⟨?_, fun z z1 z7 => Or.inl (h7 z z7)⟩, ⟨0, 0, 0, 0, q, fun _ => 0, ?_⟩, ⟨?_, Or.inl k11⟩, wr_O_fr ho (fun k _ _ => f1 0 k (by omega) (by omega) (by omega) (by omega) (by omega) (by omega) (by omega) (by omega) (by omega) (by omega)) (fun q k hh => ?_), wr_K_fr hk (fun q k hh => f1 q k (by omega) (by omega) (by omega) (by omega) (by omega) (by omega) (by omega) (by omega) (by omega) (by omega)) (fun q k hh => ?_)⟩
  · obtain ⟨z, z1, z2, z3⟩ := h23
    have g : ∀ q k, (23 ≤ q ∧ q ≤ 27) → I' q k = I q k := fun q k hh => f1 q k (by omega) (by omega) (by omega) (by omega) (by omega) (by omega) (by omega) (by omega) (by omega) (by omega)
    refine ⟨z, z1, (g 23 4 (by omega)).trans z2, fun hz => ?_⟩
    obtain ⟨⟨x1, x2, x3⟩, x4, x5⟩ := z3 hz
    exact ⟨⟨(g 23 4 (by omega)).trans x1, (g 23 5 (by omega)).trans x2, fun i hi x hx => (g 24 _ (by omega)).trans (x3 i hi x hx)⟩, fun i hi => (g 26 i (by omega)).trans (x4 i hi), fun i hi j hj => (g 25 _ (by omega)).trans (x5 i hi j hj)⟩
  · refine ⟨⟨k3, k4, k5, k6⟩, ⟨?_, ?_, ?_, ?_, ?_⟩, ⟨T0, by omega, by omega, hq⟩, fun k hk' => ?_, trivial, trivial⟩
    · rw [u 0 59 (by omega)]; exact k7
    · rw [u 0 60 (by omega)]; exact k8
    · rw [u 0 61 (by omega)]; exact k9
    · rw [u 0 62 (by omega)]; exact k10
    · rw [u 0 63 (by omega), f3 0 63 (by omega) (by omega) (by omega) (by omega) (by omega)]; exact h63
    · have T2 := h1.1.2.2.1
      obtain ⟨q1, q2⟩ := k2 k (by omega)
      rw [u 35 k (by omega)]
      exact ⟨q1, q2, by show 0 < c; omega⟩
  · rw [ij_u_same]; exact k11
  · rw [u q k (by omega)]; exact f3 q k (by omega) (by omega) (by omega) (by omega) (by omega)
  · rw [u q k (by omega)]; exact f3 q k (by omega) (by omega) (by omega) (by omega) (by omega)
theorem wr_board (hall : pg_all) (d : Nat) : lk_board xw_X (d + 7) wr_R := by
  refine ⟨fun b I J I2 J2 h => ?_, wr_free, fun b I J I2 J2 I' I2' J2' h h1 h2 e1 e2 e3 e4 hJ e5 e6 e7 e8 => ?_, fun b I J I2 J2 I' I2' J2' p c h h1 h2 hJ e5 e6 e0 e7 e7' e8 hnx => ?_⟩
  · obtain ⟨p, c, T, M, cs, tn, rg, ac, g1, g2, g3, g4, g5, g6, g7⟩ := h
    exact ⟨g7, g6.2.1⟩
  · obtain ⟨p, c, T, M, cs, tn, rg, ac, g1, g2, g3, g4, g5, g6, ⟨k, g7, g8, g9, g10⟩⟩ := h
    have h9 : I' 9 = I 9 := funext fun k => h1 9 k (by omega) (by omega) (by omega) (by omega) (by omega)
    refine ⟨p, c, T, M, cs, tn, rg, ac, wr_S_fr g1 (fun q k _ => h1 q k (by omega) (by omega) (by omega) (by omega) (by omega)) rfl rfl (fun q k hh => ?_) (funext fun k => hJ 14 k (by omega)), lw_tie_fr g2 (h1 19 3 (by omega) (by omega) (by omega) (by omega) (by omega)) h9 rfl rfl, cb_sk_fr g3 (fun q k _ => h1 q k (by omega) (by omega) (by omega) (by omega) (by omega)), wr_N_fr g4 h9 (fun q k _ => h1 q k (by omega) (by omega) (by omega) (by omega) (by omega)) (fun q k _ => h2 q k (by omega) (by omega) (by omega) (by omega) (by omega) (by omega)), wr_I_fr g5 h9 (fun q k _ => h1 q k (by omega) (by omega) (by omega) (by omega) (by omega)) (fun q k _ => h2 q k (by omega) (by omega) (by omega) (by omega) (by omega) (by omega)), ⟨e7, e8, ?_, ?_⟩, ⟨0, by omega, e5, e6, fun j hj => ?_⟩⟩
    · by_cases c1 : q = 1
      · rw [c1, e3]
      · by_cases c2 : q = 2
        · rw [c2, e4]
        · by_cases c3 : q = 0 ∧ k = 1
          · rw [c3.1, c3.2]; exact e1
          · by_cases c4 : q = 0 ∧ k = 2
            · rw [c4.1, c4.2]; exact e2
            · exact h2 q k c1 c2 (by omega) (by omega) (by omega) (by omega)
    · rw [h1 0 9 (by omega) (by omega) (by omega) (by omega) (by omega), h2 4 1 (by omega) (by omega) (by omega) (by omega) (by omega) (by omega)]; exact g6.2.2.1
    · rw [h1 0 10 (by omega) (by omega) (by omega) (by omega) (by omega), h2 4 2 (by omega) (by omega) (by omega) (by omega) (by omega) (by omega)]; exact g6.2.2.2
    · rw [h1 2 j (by omega) (by omega) (by omega) (by omega) (by omega), h2 3 j (by omega) (by omega) (by omega) (by omega) (by omega) (by omega)]; exact g10 j hj
  · obtain ⟨p0, c0, T, M, cs0, tn, rg, ac, g1, g2, g3, g4, g5, g6, ⟨k, g7, g8, g9, g10⟩⟩ := h
    obtain ⟨⟨n1, n2, n3, n4⟩, ⟨n5, n6, n7, n8⟩, ⟨cs, n9, n10⟩, n11, n12⟩ := hnx
    obtain ⟨I3, J3, I4, J4, l1, l2, l3⟩ := lay_both (X := xw_X) (d := d) (e := d + 4) (b := b) n1 n2 (fun j hj => (n9 j hj).2.2.1) (hall p cs n1 n2 (fun j hj => (n9 j hj).2.2) n10) (I := I') (J := J) (I2 := I2') (J2 := J2') n5 (fun j hj => (n9 j hj).1) n6 (fun j hj => (n9 j hj).2.1)
    obtain ⟨a, s, n, m, q, f, _, ⟨_, _, _, _, q5⟩, ⟨_, _, _, q6⟩, _⟩ := g4
    refine ⟨b, I3, J3, I4, J4, l1, l2, ?_, ?_⟩
    · obtain ⟨_, _, _, _, _, _, _, _, _, f3, _⟩ := l3
      rw [f3 0 0 (by omega) (by omega) (by omega) (by omega) (by omega)]; exact e0
    · refine wr_laid (q := q) n1 n2 (fun j hj => (n9 j hj).2.2) ⟨n3, n4⟩ l3 n7 n8 (fun j hj => ?_) n12 ?_ ?_ q6 ⟨e7.trans e7'.symm, e8, ?_, ?_⟩ ⟨0, by omega, e5, e6, fun j hj => ?_⟩
      · by_cases e : j < p
        · rw [if_pos e]; exact (n9 j e).2.1
        · rw [if_neg e]; exact n11 j (by omega) hj
      · exact (cb_sk_fr g3 (fun q k _ => h1 q k (by omega) (by omega) (by omega) (by omega) (by omega))).1
      · rw [h2 0 63 (by omega) (by omega) (by omega) (by omega) (by omega) (by omega)]; exact q5
      · rw [h1 0 9 (by omega) (by omega) (by omega) (by omega) (by omega), h2 4 1 (by omega) (by omega) (by omega) (by omega) (by omega) (by omega)]; exact g6.2.2.1
      · rw [h1 0 10 (by omega) (by omega) (by omega) (by omega) (by omega), h2 4 2 (by omega) (by omega) (by omega) (by omega) (by omega) (by omega)]; exact g6.2.2.2
      · rw [h1 2 j (by omega) (by omega) (by omega) (by omega) (by omega), h2 3 j (by omega) (by omega) (by omega) (by omega) (by omega) (by omega)]; exact g10 j hj
