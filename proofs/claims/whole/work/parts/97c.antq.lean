/-! ===== undo, redo, steps: both answer alike ===== -/
def la_fr (I I' : Nat → Nat → Int32) : Prop := ∀ p k, p ≠ 43 → ¬ (p = 42 ∧ (k = 1 ∨ k = 2 ∨ k = 3 ∨ k = 4)) → ¬ (p = 0 ∧ (k = 9 ∨ k = 10)) → I' p k = I p k
def la_fr2 (I I' : Nat → Nat → Int32) : Prop := ∀ p k, p ≠ 35 → p ≠ 36 → p ≠ 37 → ¬ (p = 0 ∧ (k = 0 ∨ k = 59 ∨ k = 60 ∨ k = 61 ∨ k = 62 ∨ k = 63)) → ¬ (p = 4 ∧ (k = 1 ∨ k = 2)) → I' p k = I p k
theorem la_fr_trans {I I' I'' : Nat → Nat → Int32} (h : la_fr I I') (h' : la_fr I' I'') : la_fr I I'' := fun p k a1 a2 a3 => (h' p k a1 a2 a3).trans (h p k a1 a2 a3)
theorem la_fr2_trans {I I' I'' : Nat → Nat → Int32} (h : la_fr2 I I') (h' : la_fr2 I' I'') : la_fr2 I I'' := fun p k a1 a2 a3 a4 a5 => (h' p k a1 a2 a3 a4 a5).trans (h p k a1 a2 a3 a4 a5)
theorem la_fr_refl (I : Nat → Nat → Int32) : la_fr I I := fun _ _ _ _ _ => rfl
theorem la_fr2_refl (I : Nat → Nat → Int32) : la_fr2 I I := fun _ _ _ _ _ _ _ => rfl
theorem la_fr_u {I I0 : Nat → Nat → Int32} {p k : Nat} {v : Int32} (hp : p = 43 ∨ p = 42 ∧ (k = 1 ∨ k = 2 ∨ k = 3 ∨ k = 4) ∨ p = 0 ∧ (k = 9 ∨ k = 10)) (h : la_fr I0 I) : la_fr I0 (ij_u I p k v) := by
  intro p' k' a1 a2 a3
  rw [← h p' k' a1 a2 a3]
  by_cases e : p' = p
  · subst e
    refine ij_u_other _ _ _ _ (fun e => ?_)
    subst e
    rcases hp with hp | hp | hp
    · exact a1 hp
    · exact a2 hp
    · exact a3 hp
  · exact congrFun (ij_u_ne e) k'
theorem la_fr2_u {I I0 : Nat → Nat → Int32} {p k : Nat} {v : Int32} (hp : p = 35 ∨ p = 36 ∨ p = 37 ∨ p = 0 ∧ (k = 0 ∨ k = 59 ∨ k = 60 ∨ k = 61 ∨ k = 62 ∨ k = 63) ∨ p = 4 ∧ (k = 1 ∨ k = 2)) (h : la_fr2 I0 I) : la_fr2 I0 (ij_u I p k v) := by
  intro p' k' a1 a2 a3 a4 a5
  rw [← h p' k' a1 a2 a3 a4 a5]
  by_cases e : p' = p
  · subst e
    refine ij_u_other _ _ _ _ (fun e => ?_)
    subst e
    rcases hp with hp | hp | hp | hp | hp
    · exact a1 hp
    · exact a2 hp
    · exact a3 hp
    · exact a4 hp
    · exact a5 hp
  · exact congrFun (ij_u_ne e) k'
/-- the ant's part of a tie, and that its going keeps the rest -/
def lk_ant (R : lk_Rl) : Prop := ∀ b I J I2 J2, R b I J I2 J2 → ∃ p T c tn a s n m q f, la_base p T c tn I I2 ∧ la_now p T c tn I I2 a s n m q f ∧ I 0 9 = I2 4 1 ∧ I 0 10 = I2 4 2 ∧ ∀ I' I2' a' s' n' m' q' f', la_fr I I' → la_fr2 I2 I2' → la_now p T c tn I' I2' a' s' n' m' q' f' → I' 0 9 = I2' 4 1 → I' 0 10 = I2' 4 2 → R b I' J I2' J2
theorem la_base_fr {p T c : Nat} {tn : Nat → Nat} {I I2 I' I2' : Nat → Nat → Int32} (h : la_fr I I') (h2 : la_fr2 I2 I2') (hb : la_base p T c tn I I2) : la_base p T c tn I' I2' := by
  have e9 : I' 9 = I 9 := funext (fun k => h 9 k (by decide) (by omega) (by omega))
  have e7 : I2' 7 = I2 7 := funext (fun k => h2 7 k (by decide) (by decide) (by decide) (by omega) (by omega))
  have e41 : I' 41 = I 41 := funext (fun k => h 41 k (by decide) (by omega) (by omega))
  have e2 : I2' 2 = I2 2 := funext (fun k => h2 2 k (by decide) (by decide) (by decide) (by omega) (by omega))
  unfold la_base
  rw [e9, e7, e41, e2, h 6 8 (by decide) (by omega) (by omega), h 6 9 (by decide) (by omega) (by omega), h 40 5 (by decide) (by omega) (by omega), h2 0 1 (by decide) (by decide) (by decide) (by omega) (by omega), h2 0 2 (by decide) (by decide) (by decide) (by omega) (by omega)]
  exact hb
/-- what isn't looked at may change -/
theorem la_now_of {p T c : Nat} {tn : Nat → Nat} {I I2 I' I2' : Nat → Nat → Int32} {a s n m q : Nat} {f : Nat → Nat} (hn : la_now p T c tn I I2 a s n m q f) (e9 : I' 9 = I 9) (e42 : I' 42 = I 42) (e43 : I' 43 = I 43) (e0 : I2' 0 59 = I2 0 59 ∧ I2' 0 60 = I2 0 60 ∧ I2' 0 61 = I2 0 61 ∧ I2' 0 62 = I2 0 62 ∧ I2' 0 63 = I2 0 63) (e35 : I2' 35 = I2 35) (e36 : I2' 36 = I2 36) (e37 : I2' 37 = I2 37) : la_now p T c tn I' I2' a s n m q f := by
  unfold la_now at hn ⊢
  rw [e9, e42, e43, e0.1, e0.2.1, e0.2.2.1, e0.2.2.2.1, e0.2.2.2.2, e35, e36, e37]
  exact hn
section LAQ
variable {p T c : Nat} {tn : Nat → Nat} {X : ij_R} {d d2 : Nat} {b : Bool} {I I2 : Nat → Nat → Int32} {J J2 : Nat → Nat → Int64} {a s n m q : Nat} {f : Nat → Nat}
theorem lq_undo {R : lk_Rl} (hR0 : lk_ant R) : lk_q_undo X (d + 4) R := by
  intro b I J I2 J2 hR
  obtain ⟨p, T, c, tn, a, s, n, m, q, f, hb, hn, h9, h10, hk⟩ := hR0 b I J I2 J2 hR
  have hb' := hb
  have hn' := hn
  obtain ⟨b1, b2, b3, b4, b5, ⟨b6, b7⟩, b8, ⟨b9, b10⟩, b11, b12, b13, b14⟩ := hb'
  obtain ⟨⟨n1, n2, n3, n4⟩, ⟨z1, z2, z3, z4, z5⟩, ⟨m1, m2, m3, m4⟩, m5, m6, m7⟩ := hn'
  have e33 := lx_beyond (X := X) (d := d + 2) (b := b) (I := I) (J := J) b7 b8 b1 b3 m1 m2
  cases n with
  | zero =>
    refine ⟨0, b, ij_u I 0 10 (I 0 10 + 1), J, ij_u (ij_u I2 0 0 0) 4 2 (I2 4 2 + 1), J2, ?_, ?_, ?_⟩
    · have g0 := xp_X0_goBack_0_0 (C := ik_cr xk_P xk_M xk_Y xk_K X (d + 3)) (v := some (.int 0)) (τ := (xk_R b, I, J)) (b := b) I J (I 9 (8 * a + s)) (b' := b) (I' := I) (J' := J)
      rw [n1, n2] at g0
      exact ik_cr_of (Nat.le_of_ble_eq_true rfl) (xp_X10_undo_0_0 I J 0 (ik_cr_of (Nat.le_of_ble_eq_true rfl) (g0 e33 (xp_X0_goBack_21_0 I J _ n3))) (xp_X10_undo_8_0 I J 0 0 (ik_cr_of (Nat.le_of_ble_eq_true rfl) (xp_X10_countedChange_0_1 I J 0 rfl (Or.inl rfl))) (xp_X10_undo_11_0 _ J 0 (Or.inl rfl))))
    · exact ij_cr_of (Nat.le_of_ble_eq_true rfl) (rp_undo_0_1 I2 J2 z3 (vp_in_nI (n := 2) (by decide) (by decide)) (vp_in_nI (n := 2) (by decide) (by decide)))
    · refine hk _ _ a s 0 m q f (la_fr_u (Or.inr (Or.inr ⟨rfl, Or.inr rfl⟩)) (la_fr_refl I)) (la_fr2_u (Or.inr (Or.inr (Or.inr (Or.inr ⟨rfl, Or.inr rfl⟩)))) (la_fr2_u (Or.inr (Or.inr (Or.inr (Or.inl ⟨rfl, Or.inl rfl⟩)))) (la_fr2_refl I2))) (la_now_of hn rfl rfl rfl ⟨rfl, rfl, rfl, rfl, rfl⟩ rfl rfl rfl) h9 ?_
      show I 0 10 + 1 = I2 4 2 + 1
      rw [h10]
  | succ n =>
    obtain ⟨u, hu, g2, g3, g4, g5⟩ := m6
    have hfu := m5 u hu
    have hx : (f u + 8 * c - 1) % c < c := la_lt b9 _
    have htx := b11 _ hx
    have hs' : (s + 8 * p - tn ((f u + 8 * c - 1) % c)) % p < p := la_lt b6 _
    have eq999 : (q + 1000 - 1) % 1000 = (q + 999) % 1000 := by omega
    have hq' : (q + 999) % 1000 < 1000 := Nat.mod_lt _ (by decide)
    refine ⟨1, b, ij_u (ij_u (ij_u (ij_u (ij_u I 43 u (nI ((f u + 8 * c - 1) % c))) 42 1 (nI u)) 42 2 (nI ((s + 8 * p - tn ((f u + 8 * c - 1) % c)) % p))) 42 3 (nI n)) 42 4 (nI (m + 1)), J, ij_u (ij_u (ij_u (ij_u (ij_u (ij_u (ij_u I2 0 0 0) 0 63 (nI ((q + 999) % 1000))) 0 61 (nI n)) 0 62 (nI (m + 1))) 0 59 (nI u)) 0 60 (nI ((s + 8 * p - tn ((f u + 8 * c - 1) % c)) % p))) 35 u (nI ((f u + 8 * c - 1) % c)), J2, ?_, ?_, ?_⟩
    · rw [g2] at e33
      have e98 := lx_paint (X := X) (d := d + 2) (b := b) (I := I) (J := J) (a := u) (by omega)
      rw [hfu.1] at e98
      have e147 := lx_modulo (X := X) (d := d + 1) (b := b) (I := I) (J := J) (nI (f u) - nI 1) (nI c)
      rw [lf_fm_sub (by omega) (by omega) b9 b10] at e147
      have e99 := lx_setPaint (X := X) (d := d + 2) (b := b) (I := I) (J := J) (a := u) (by omega) (nI ((f u + 8 * c - 1) % c))
      have e8 := lx_turnOf (X := X) (d := d + 2) (b := b) (I := ij_u (ij_u I 43 u (nI ((f u + 8 * c - 1) % c))) 42 1 (nI u)) (J := J) (k := (f u + 8 * c - 1) % c) (by omega)
      rw [show (ij_u (ij_u I 43 u (nI ((f u + 8 * c - 1) % c))) 42 1 (nI u)) 41 ((f u + 8 * c - 1) % c) = nI (tn ((f u + 8 * c - 1) % c)) from htx.1] at e8
      have e147b := lx_modulo (X := X) (d := d + 1) (b := b) (I := ij_u (ij_u I 43 u (nI ((f u + 8 * c - 1) % c))) 42 1 (nI u)) (J := J) (nI s - nI (tn ((f u + 8 * c - 1) % c))) (nI p)
      rw [lf_fm_sub (by omega) (by omega) b6 b7] at e147b
      have g0 := xp_X0_goBack_0_0 (C := ik_cr xk_P xk_M xk_Y xk_K X (d + 3)) (v := some (.int 1)) (b := b) I J (nI u) (b' := b) (I' := I) (J' := J) (τ := (xk_R b, ij_u (ij_u (ij_u (ij_u (ij_u I 43 u (nI ((f u + 8 * c - 1) % c))) 42 1 (nI u)) 42 2 (nI ((s + 8 * p - tn ((f u + 8 * c - 1) % c)) % p))) 42 3 (nI n)) 42 4 (nI (m + 1)), J))
      rw [n1, n2] at g0
      have g47 := xp_X0_goBack_47_0 (C := ik_cr xk_P xk_M xk_Y xk_K X (d + 3)) (v := some (.int 1)) (b := b) I J (nI u) (nI (f u)) (nI ((f u + 8 * c - 1) % c)) (b' := b) (I' := I) (J' := J) (τ := (xk_R b, ij_u (ij_u (ij_u (ij_u (ij_u I 43 u (nI ((f u + 8 * c - 1) % c))) 42 1 (nI u)) 42 2 (nI ((s + 8 * p - tn ((f u + 8 * c - 1) % c)) % p))) 42 3 (nI n)) 42 4 (nI (m + 1)), J))
      rw [b4] at g47
      have g66 := xp_X0_goBack_66_0 (C := ik_cr xk_P xk_M xk_Y xk_K X (d + 3)) (v := some (.int 1)) (b := b) (ij_u I 43 u (nI ((f u + 8 * c - 1) % c))) J (nI u) (nI ((f u + 8 * c - 1) % c)) (nI (tn ((f u + 8 * c - 1) % c))) (b' := b) (I' := ij_u (ij_u I 43 u (nI ((f u + 8 * c - 1) % c))) 42 1 (nI u)) (J' := J) (τ := (xk_R b, ij_u (ij_u (ij_u (ij_u (ij_u I 43 u (nI ((f u + 8 * c - 1) % c))) 42 1 (nI u)) 42 2 (nI ((s + 8 * p - tn ((f u + 8 * c - 1) % c)) % p))) 42 3 (nI n)) 42 4 (nI (m + 1)), J))
      rw [show (ij_u I 43 u (nI ((f u + 8 * c - 1) % c))) 42 2 = nI s from n2] at g66
      have g90 := xp_X0_goBack_90_0 (C := ik_cr xk_P xk_M xk_Y xk_K X (d + 3)) (v := some (.int 1)) (b := b) (ij_u (ij_u I 43 u (nI ((f u + 8 * c - 1) % c))) 42 1 (nI u)) J (nI s) (nI (tn ((f u + 8 * c - 1) % c))) (nI ((s + 8 * p - tn ((f u + 8 * c - 1) % c)) % p)) (b' := b) (I' := ij_u (ij_u I 43 u (nI ((f u + 8 * c - 1) % c))) 42 1 (nI u)) (J' := J) (τ := (xk_R b, ij_u (ij_u (ij_u (ij_u (ij_u I 43 u (nI ((f u + 8 * c - 1) % c))) 42 1 (nI u)) 42 2 (nI ((s + 8 * p - tn ((f u + 8 * c - 1) % c)) % p))) 42 3 (nI n)) 42 4 (nI (m + 1)), J))
      rw [show (ij_u (ij_u I 43 u (nI ((f u + 8 * c - 1) % c))) 42 1 (nI u)) 6 8 = nI p from b1] at g90
      have g101 := xp_X0_goBack_101_0 (C := ik_cr xk_P xk_M xk_Y xk_K X (d + 3)) (b := b) (ij_u (ij_u I 43 u (nI ((f u + 8 * c - 1) % c))) 42 1 (nI u)) J (nI ((s + 8 * p - tn ((f u + 8 * c - 1) % c)) % p))
      rw [show (ij_u (ij_u I 43 u (nI ((f u + 8 * c - 1) % c))) 42 1 (nI u)) 42 3 = nI (n + 1) from n3, show (ij_u (ij_u I 43 u (nI ((f u + 8 * c - 1) % c))) 42 1 (nI u)) 42 4 = nI m from n4, nI_pred, nI_1] at g101
      have hgo := g0 e33 (xp_X0_goBack_21_1 I J (nI u) (nI (f u)) (by rw [n3]; exact nI_ne0 (by omega) (by omega)) (nI_ne_m1 (by omega)) e98 (g47 e147 (xp_X0_goBack_56_0 I J (nI u) _ e99 (g66 e8 (g90 e147b g101)))))
      exact ik_cr_of (Nat.le_of_ble_eq_true rfl) (xp_X10_undo_0_0 I J 1 (ik_cr_of (Nat.le_of_ble_eq_true rfl) hgo) (xp_X10_undo_8_0 _ J 1 1 (ik_cr_of (Nat.le_of_ble_eq_true rfl) (xp_X10_countedChange_0_0 _ J 1 (by decide) (Or.inr rfl))) (xp_X10_undo_11_0 _ J 1 (Or.inr rfl))))
    · have cq : (nI ((q + 999) % 1000)).toNatClampNeg = (q + 999) % 1000 := nI_clamp (by omega)
      have cu : (nI u).toNatClampNeg = u := nI_clamp (by omega)
      have r3 : nI (q + 999) - nI (q + 999) / nI 1000 * nI 1000 = nI ((q + 999) % 1000) := pk_rem (by omega) (by decide) (by decide)
      have s3 : nI (q + 1000) - 1 = nI (q + 999) := nI_pred (q + 999)
      have s4 : nI (f u + c) - 1 = nI (f u + c - 1) := by
        have := nI_pred (f u + c - 1)
        rw [show f u + c - 1 + 1 = f u + c by omega] at this
        exact this
      have r4 : nI (f u + c - 1) - nI (f u + c - 1) / nI c * nI c = nI ((f u + 8 * c - 1) % c) := by
        rw [pk_rem (by omega) b9 (by omega), la_m5 b9 b10 hfu.2.2]
      have g := rp_undo_0_0 (C := rk_call (d + 4)) I2 J2
      simp only [z5, la_1000, nI_add, s3, r3, cq, g3, cu, hfu.2.1, b5, s4, r4, z3, z4, nI_pred, nI_1, g4] at g
      exact ij_cr_of (Nat.le_of_ble_eq_true rfl) (g (nI_ne0 (by omega) (by omega)) (by decide) (vp_in_nI hq' (by decide)) (vp_in_nI hq' (by decide)) (vp_in_nI (by omega) (by decide)) (nI_ne0 b9 (by omega)) (vp_in_nI (by omega) (by decide)))
    · refine hk _ _ u ((s + 8 * p - tn ((f u + 8 * c - 1) % c)) % p) n (m + 1) ((q + 999) % 1000) (la_up f u ((f u + 8 * c - 1) % c)) ?_ ?_ ?_ h9 h10
      · exact la_fr_u (by decide) (la_fr_u (by decide) (la_fr_u (by decide) (la_fr_u (by decide) (la_fr_u (Or.inl rfl) (la_fr_refl I)))))
      · exact la_fr2_u (Or.inl rfl) (la_fr2_u (by decide) (la_fr2_u (by decide) (la_fr2_u (by decide) (la_fr2_u (by decide) (la_fr2_u (by decide) (la_fr2_u (by decide) (la_fr2_refl I2)))))))
      · refine ⟨⟨rfl, rfl, rfl, rfl⟩, ⟨rfl, rfl, rfl, rfl, rfl⟩, ⟨hu, hs', by omega, hq'⟩, ?_, g5, ?_⟩
        · intro k hk
          show (ij_u I 43 u (nI ((f u + 8 * c - 1) % c))) 43 k = _ ∧ (ij_u I2 35 u (nI ((f u + 8 * c - 1) % c))) 35 k = _ ∧ _
          by_cases e : k = u
          · rw [e, ij_u_same, ij_u_same, la_up_same]
            exact ⟨rfl, rfl, hx⟩
          · rw [ij_u_other _ _ _ _ e, ij_u_other _ _ _ _ e, la_up_ne e]
            exact m5 k hk
        · have es : ((s + 8 * p - tn ((f u + 8 * c - 1) % c)) % p + tn ((la_up f u ((f u + 8 * c - 1) % c)) u)) % p = s := by
            rw [la_up_same]
            exact la_m1 b6 b7 m2 htx.2.2
          have ex : ((la_up f u ((f u + 8 * c - 1) % c)) u + 1) % c = f u := by
            rw [la_up_same]
            exact la_m1 b9 b10 hfu.2.2 (by decide)
          have eu : la_up (la_up f u ((f u + 8 * c - 1) % c)) u (f u) = f := funext (fun k => by
            by_cases e : k = u
            · rw [e, la_up_same]
            · rw [la_up_ne e, la_up_ne e])
          refine ⟨a, m1, ?_, ?_⟩
          · rw [es]
            exact b14 a s u m1 m2 hu g2
          · rw [es, ex, eu]
            exact m7
end LAQ
section LAR
variable {p T c : Nat} {tn : Nat → Nat} {X : ij_R} {d d2 : Nat} {b : Bool} {I I2 : Nat → Nat → Int32} {J J2 : Nat → Nat → Int64} {a s n m q : Nat} {f : Nat → Nat}
theorem lq_redo {R : lk_Rl} (hR0 : lk_ant R) : lk_q_redo X (d + 4) R := by
  intro b I J I2 J2 hR
  obtain ⟨p, T, c, tn, a, s, n, m, q, f, hb, hn, h9, h10, hk⟩ := hR0 b I J I2 J2 hR
  have hb' := hb
  have hn' := hn
  obtain ⟨b1, b2, b3, b4, b5, ⟨b6, b7⟩, b8, ⟨b9, b10⟩, b11, b12, b13, b14⟩ := hb'
  obtain ⟨⟨n1, n2, n3, n4⟩, ⟨z1, z2, z3, z4, z5⟩, ⟨m1, m2, m3, m4⟩, m5, m6, m7⟩ := hn'
  cases m with
  | zero =>
    refine ⟨0, b, ij_u I 0 10 (I 0 10 + 1), J, ij_u (ij_u I2 0 0 0) 4 2 (I2 4 2 + 1), J2, ?_, ?_, ?_⟩
    · exact ik_cr_of (Nat.le_of_ble_eq_true rfl) (xp_X10_redo_0_0 I J 0 (ik_cr_of (Nat.le_of_ble_eq_true rfl) (xp_X0_goAgain_0_0 I J n4)) (xp_X10_redo_8_0 I J 0 0 (ik_cr_of (Nat.le_of_ble_eq_true rfl) (xp_X10_countedChange_0_1 I J 0 rfl (Or.inl rfl))) (xp_X10_redo_11_0 _ J 0 (Or.inl rfl))))
    · exact ij_cr_of (Nat.le_of_ble_eq_true rfl) (rp_redo_0_1 I2 J2 z4 (vp_in_nI (n := 2) (by decide) (by decide)) (vp_in_nI (n := 2) (by decide) (by decide)))
    · refine hk _ _ a s n 0 q f (la_fr_u (Or.inr (Or.inr ⟨rfl, Or.inr rfl⟩)) (la_fr_refl I)) (la_fr2_u (Or.inr (Or.inr (Or.inr (Or.inr ⟨rfl, Or.inr rfl⟩)))) (la_fr2_u (Or.inr (Or.inr (Or.inr (Or.inl ⟨rfl, Or.inl rfl⟩)))) (la_fr2_refl I2))) (la_now_of hn rfl rfl rfl ⟨rfl, rfl, rfl, rfl, rfl⟩ rfl rfl rfl) h9 ?_
      show I 0 10 + 1 = I2 4 2 + 1
      rw [h10]
  | succ m =>
    obtain ⟨v, hv, g1, g2⟩ := m7
    have hfa := m5 a m1
    have hta := b11 (f a) hfa.2.2
    have hl : la_l p tn s f a < p := la_lt b6 _
    have hst := lx_step_y (X := X) (d := d) (b := b) (J := J) hb hn hv g1
    have hgo := rs_goes_y (p := p) (c := c) (d := d + 3) (K := ij_u (ij_u I2 0 0 0) 0 62 (nI m)) (J2 := J2) (a := a) (s := s) (n := n) (q := q) (x := f a) (t := tn (f a)) (v := v) z1 z2 z3 z5 b2 b5 hfa.2.1 hta.2.1 ((b13 a (la_l p tn s f a) m1 hl).trans g1) (by omega) (by omega) (by omega) m4 ⟨b6, b7⟩ ⟨b9, b10⟩ (by omega) hta.2.2 (by omega)
    rw [if_neg (show ¬ n = 1000 by omega)] at hgo
    refine ⟨1, b, ij_u (ij_u (la_I I a ((f a + 1) % c) v (la_l p tn s f a)) 42 3 (nI (n + 1))) 42 4 (nI m), J, la_I2 (ij_u (ij_u I2 0 0 0) 0 62 (nI m)) a s q (n + 1) ((f a + 1) % c) v (la_l p tn s f a), J2, ?_, ?_, ?_⟩
    · have g14 := xp_X0_goAgain_14_0 (C := ik_cr xk_P xk_M xk_Y xk_K X (d + 3)) (b := b) (la_I I a ((f a + 1) % c) v (la_l p tn s f a)) J 1 (by decide)
      rw [show (la_I I a ((f a + 1) % c) v (la_l p tn s f a)) 42 3 = nI n from n3, show (la_I I a ((f a + 1) % c) v (la_l p tn s f a)) 42 4 = nI (m + 1) from n4, nI_pred, nI_1] at g14
      exact ik_cr_of (Nat.le_of_ble_eq_true rfl) (xp_X10_redo_0_0 I J 1 (ik_cr_of (Nat.le_of_ble_eq_true rfl) (xp_X0_goAgain_0_1 I J 1 (by rw [n4]; exact nI_ne0 (by omega) (by omega)) hst g14)) (xp_X10_redo_8_0 _ J 1 1 (ik_cr_of (Nat.le_of_ble_eq_true rfl) (xp_X10_countedChange_0_0 _ J 1 (by decide) (Or.inr rfl))) (xp_X10_redo_11_0 _ J 1 (Or.inr rfl))))
    · have g0 := rp_redo_0_0 (C := rk_call (d + 4)) (v := some (.int 1)) (τ := (rk_R, la_I2 (ij_u (ij_u I2 0 0 0) 0 62 (nI m)) a s q (n + 1) ((f a + 1) % c) v (la_l p tn s f a), J2)) I2 J2 (by rw [z4]; exact nI_ne0 (by omega) (by omega)) 1 (I' := la_I2 (ij_u (ij_u I2 0 0 0) 0 62 (nI m)) a s q (n + 1) ((f a + 1) % c) v (la_l p tn s f a)) (J' := J2)
      rw [z4, nI_pred] at g0
      exact ij_cr_of (Nat.le_of_ble_eq_true rfl) (g0 hgo (rp_redo_38_0 _ J2 1 (Or.inr rfl)))
    · refine hk _ _ v (la_l p tn s f a) (n + 1) m ((q + 1) % 1000) (la_up f a ((f a + 1) % c)) ?_ ?_ ?_ h9 h10
      · exact la_fr_u (by decide) (la_fr_u (by decide) (la_fr_u (by decide) (la_fr_u (by decide) (la_fr_u (Or.inl rfl) (la_fr_refl I)))))
      · exact la_fr2_u (by decide) (la_fr2_u (by decide) (la_fr2_u (Or.inl rfl) (la_fr2_u (by decide) (la_fr2_u (by decide) (la_fr2_u (Or.inr (Or.inr (Or.inl rfl))) (la_fr2_u (Or.inr (Or.inl rfl)) (la_fr2_u (by decide) (la_fr2_u (by decide) (la_fr2_refl I2)))))))))
      · exact la_step_tie hb hn hv g1 (n + 1) m (by omega) (by omega) g2 rfl rfl rfl rfl rfl rfl rfl rfl rfl rfl rfl rfl rfl rfl
/-- the loop of steps -/
theorem ls_steps {n9 N : Nat} (hN : N ≤ 400) : ∀ (r k : Nat) (I I2 : Nat → Nat → Int32) (a s n m q : Nat) (f : Nat → Nat), k + r = N → la_base p T c tn I I2 → la_now p T c tn I I2 a s n m q f → I 0 9 = I2 4 1 → I 0 10 = I2 4 2 → ∃ w I' I2' a' s' n' m' q' f', xk_gx (ik_cr xk_P xk_M xk_Y xk_K X (d + 4)) (lk_cx2 X (d + 4)) 133 n9 (21, [some (.ref 0), some (.int (nI N)), some (.int (nI k))], [], (xk_R b, I, J)) (.inl (some (.int w))) (xk_R b, I', J) ∧ rk_go (rk_call (d2 + 1)) 69 (33, [some (.ref 0), some (.int (nI N)), some (.int (nI k))], [], (rk_R, I2, J2)) (some (.int w)) (rk_R, I2', J2) ∧ la_fr I I' ∧ la_fr2 I2 I2' ∧ la_now p T c tn I' I2' a' s' n' m' q' f' ∧ I' 0 9 = I2' 4 1 ∧ I' 0 10 = I2' 4 2 ∧ I2' 0 0 = I2 0 0 := by
  intro r
  induction r with
  | zero =>
    intro k I I2 a s n m q f hk hb hn h9 h10
    have : k = N := by omega
    subst this
    have hle : nI k ≤ nI k := nI_le (Nat.le_refl k) (by omega)
    exact ⟨nI k, I, I2, a, s, n, m, q, f, xp_X10_steps_21_0 I J (nI k) (nI k) hle, rp_steps_33_0 I2 J2 (nI k) (nI k) hle, la_fr_refl I, la_fr2_refl I2, hn, h9, h10, rfl⟩
  | succ r ih =>
    intro k I I2 a s n m q f hk hb hn h9 h10
    have hge : ¬ nI N ≤ nI k := nI_ge (by omega) (by omega)
    have hb' := hb
    have hn' := hn
    obtain ⟨b1, b2, b3, b4, b5, ⟨b6, b7⟩, b8, ⟨b9, b10⟩, b11, b12, b13, b14⟩ := hb'
    obtain ⟨⟨n1, n2, n3, n4⟩, ⟨z1, z2, z3, z4, z5⟩, ⟨m1, m2, m3, m4⟩, m5, m6, m7⟩ := hn'
    have hfa := m5 a m1
    have hta := b11 (f a) hfa.2.2
    have hl : la_l p tn s f a < p := la_lt b6 _
    rcases b12 a (la_l p tn s f a) m1 hl with hm | ⟨v, hv, g1⟩
    · have hst := lx_step_n (X := X) (d := d) (b := b) (J := J) hb hn hm
      have hgo := rs_goes_n (p := p) (d := d2) (K := I2) (J2 := J2) (a := a) (s := s) (x := f a) (t := tn (f a)) z1 z2 b2 hfa.2.1 hta.2.1 ((b13 a (la_l p tn s f a) m1 hl).trans hm) (by omega) (by omega) ⟨b6, b7⟩ (by omega) hta.2.2
      refine ⟨nI k, ij_u I 0 9 (I 0 9 + 1), ij_u I2 4 1 (I2 4 1 + 1), a, s, n, m, q, f, ?_, ?_, la_fr_u (by decide) (la_fr_refl I), la_fr2_u (by decide) (la_fr2_refl I2), la_now_of hn rfl rfl rfl ⟨rfl, rfl, rfl, rfl, rfl⟩ rfl rfl rfl, ?_, h10, rfl⟩
      · exact xp_X10_steps_21_1 I J (nI N) (nI k) 0 hge (ik_cr_of (Nat.le_of_ble_eq_true rfl) (xp_X0_goOn_0_0 I J 0 hst (xp_X0_goOn_4_1 I J 0 rfl))) (xp_X10_steps_33_1 I J (nI N) (nI k) 0 rfl)
      · exact rp_steps_33_1 I2 J2 (nI N) (nI k) hge 0 hgo (rp_steps_42_1 I2 J2 (nI N) (nI k) 0 rfl (vp_in_nI (n := 1) (by decide) (by decide)) (vp_in_nI (n := 1) (by decide) (by decide)))
      · show I 0 9 + 1 = I2 4 1 + 1
        rw [h9]
    · have hst := lx_step_y (X := X) (d := d) (b := b) (J := J) hb hn hv g1
      have hgo := rs_goes_y (p := p) (c := c) (d := d2) (K := I2) (J2 := J2) (a := a) (s := s) (n := n) (q := q) (x := f a) (t := tn (f a)) (v := v) z1 z2 z3 z5 b2 b5 hfa.2.1 hta.2.1 ((b13 a (la_l p tn s f a) m1 hl).trans g1) (by omega) (by omega) (by omega) m4 ⟨b6, b7⟩ ⟨b9, b10⟩ (by omega) hta.2.2 (by omega)
      have hmin : lk_cx1 X (d + 3) 149 [.int (nI (n + 1)), .int 1000] (xk_R b, la_I I a ((f a + 1) % c) v (la_l p tn s f a), J) (some (.int (nI (if n = 1000 then 1000 else n + 1)))) (xk_R b, la_I I a ((f a + 1) % c) v (la_l p tn s f a), J) := by
        refine ik_cr_of (Nat.le_of_ble_eq_true rfl) ?_
        by_cases e : n = 1000
        · rw [if_pos e]
          exact xp_J9_min_7cf53_0_0 _ J (nI (n + 1)) 1000 (nI_lt (a := 1000) (by omega) (by omega))
        · rw [if_neg e]
          exact xp_J9_min_7cf53_0_1 _ J (nI (n + 1)) 1000 (nI_nlt (a := 1000) (by omega) (by omega))
      have hb2 : la_base p T c tn (ij_u (ij_u (la_I I a ((f a + 1) % c) v (la_l p tn s f a)) 42 3 (nI (if n = 1000 then 1000 else n + 1))) 42 4 0) (ij_u (la_I2 I2 a s q (if n = 1000 then 1000 else n + 1) ((f a + 1) % c) v (la_l p tn s f a)) 0 62 0) := hb
      have ft : la_fr I (ij_u (ij_u (la_I I a ((f a + 1) % c) v (la_l p tn s f a)) 42 3 (nI (if n = 1000 then 1000 else n + 1))) 42 4 0) := la_fr_u (by decide) (la_fr_u (by decide) (la_fr_u (by decide) (la_fr_u (by decide) (la_fr_u (Or.inl rfl) (la_fr_refl I)))))
      have ft2 : la_fr2 I2 (ij_u (la_I2 I2 a s q (if n = 1000 then 1000 else n + 1) ((f a + 1) % c) v (la_l p tn s f a)) 0 62 0) := la_fr2_u (by decide) (la_fr2_u (by decide) (la_fr2_u (by decide) (la_fr2_u (Or.inl rfl) (la_fr2_u (by decide) (la_fr2_u (by decide) (la_fr2_u (Or.inr (Or.inr (Or.inl rfl))) (la_fr2_u (Or.inr (Or.inl rfl)) (la_fr2_refl I2))))))))
      have hn2 := la_step_tie (I' := ij_u (ij_u (la_I I a ((f a + 1) % c) v (la_l p tn s f a)) 42 3 (nI (if n = 1000 then 1000 else n + 1))) 42 4 0) (K' := ij_u (la_I2 I2 a s q (if n = 1000 then 1000 else n + 1) ((f a + 1) % c) v (la_l p tn s f a)) 0 62 0) hb hn hv g1 (if n = 1000 then 1000 else n + 1) 0 (by split <;> omega) (by split <;> omega) trivial rfl rfl rfl rfl rfl rfl rfl rfl rfl rfl rfl rfl rfl rfl
      obtain ⟨w, I', I2', a', s', n', m', q', f', r1, r2, r3, r4, r5, r6, r7, r8⟩ := ih (k + 1) _ _ _ _ _ _ _ _ (by omega) hb2 hn2 h9 h10
      rw [← nI_1] at r1 r2
      refine ⟨w, I', I2', a', s', n', m', q', f', ?_, ?_, la_fr_trans ft r3, la_fr2_trans ft2 r4, r5, r6, r7, r8⟩
      · have g4 := xp_X0_goOn_4_0 (C := ik_cr xk_P xk_M xk_Y xk_K X (d + 3)) (v := some (.int 1)) (b := b) (la_I I a ((f a + 1) % c) v (la_l p tn s f a)) J 1 (nI (if n = 1000 then 1000 else n + 1)) (b' := b) (I' := la_I I a ((f a + 1) % c) v (la_l p tn s f a)) (J' := J) (τ := (xk_R b, ij_u (ij_u (la_I I a ((f a + 1) % c) v (la_l p tn s f a)) 42 3 (nI (if n = 1000 then 1000 else n + 1))) 42 4 0, J)) (by decide)
        rw [show (la_I I a ((f a + 1) % c) v (la_l p tn s f a)) 42 3 = nI n from n3, nI_1] at g4
        exact xp_X10_steps_21_1 I J (nI N) (nI k) 1 hge (ik_cr_of (Nat.le_of_ble_eq_true rfl) (xp_X0_goOn_0_0 I J 1 hst (g4 hmin (xp_X0_goOn_28_0 _ J _)))) (xp_X10_steps_33_0 _ J (nI N) (nI k) 1 (by decide) r1)
      · exact rp_steps_33_1 I2 J2 (nI N) (nI k) hge 1 hgo (rp_steps_42_0 _ J2 (nI N) (nI k) 1 (by decide) r2)
end LAR
theorem lq_steps {X : ij_R} {d : Nat} {R : lk_Rl} (hR0 : lk_ant R) (hf : lk_free R) : lk_q_steps X (d + 5) R := by
  intro x b I J I2 J2 hR
  by_cases hx : x < 0 ∨ 400 < x
  · refine Or.inr ⟨0, b, I, J, ij_u (ij_u I2 0 0 0) 0 0 1, J2, ?_, ?_, rfl, hf b I J _ J2 1 (hf b I J I2 J2 0 hR)⟩
    · refine lx_of (by decide) (Nat.le_of_ble_eq_true rfl) ?_
      by_cases h0 : x < 0
      · exact xp_X10_steps_0_0 I J x h0 (by decide)
      · exact xp_X10_steps_0_2 I J x h0 (Int32.not_le.mpr (hx.resolve_left h0)) (by decide)
    · refine ij_cr_of (Nat.le_of_ble_eq_true rfl) ?_
      have hr := rs_right (d + 4) (ij_u I2 0 0 0) J2 0 1 rfl (by decide)
      by_cases h0 : x < 0
      · exact rp_steps_0_0 I2 J2 x h0 0 hr (rp_steps_26_1 _ J2 x 0 rfl)
      · exact rp_steps_0_1 I2 J2 x h0 (hx.resolve_left h0) 0 hr (rp_steps_26_1 _ J2 x 0 rfl)
  · obtain ⟨N, hN, rfl⟩ := nI_of2 (M := 400) (n := 400) (by decide) (fun q => hx (Or.inl q)) (Int32.not_lt.mp (fun q => hx (Or.inr q)))
    have h0 : ¬ nI N < 0 := fun q => hx (Or.inl q)
    have h1 : ¬ (400 : Int32) < nI N := fun q => hx (Or.inr q)
    obtain ⟨p, T, c, tn, a, s, n, m, q, f, hb, hn, h9, h10, hk⟩ := hR0 b I J I2 J2 hR
    have hb0 : la_base p T c tn I (ij_u I2 0 0 0) := hb
    have hn0 : la_now p T c tn I (ij_u I2 0 0 0) a s n m q f := hn
    obtain ⟨w, I', I2', a', s', n', m', q', f', r1, r2, r3, r4, r5, r6, r7, r8⟩ := ls_steps (X := X) (d := d) (d2 := d + 4) (b := b) (J := J) (J2 := J2) (n9 := xk_co 133) hN N 0 I (ij_u I2 0 0 0) a s n m q f (Nat.zero_add N) hb0 hn0 h9 h10
    refine Or.inl ⟨w, b, I', J, I2', J2, ?_, ?_, r8, hk I' I2' a' s' n' m' q' f' r3 (la_fr2_trans (la_fr2_u (by decide) (la_fr2_refl I2)) r4) r5 r6 r7⟩
    · exact lx_of (by decide) (Nat.le_of_ble_eq_true rfl) (xp_X10_steps_0_1 I J (nI N) h0 (Int32.not_lt.mp h1) r1)
    · exact ij_cr_of (Nat.le_of_ble_eq_true rfl) (rp_steps_0_2 I2 J2 (nI N) h0 h1 1 (rs_right (d + 4) (ij_u I2 0 0 0) J2 1 1 rfl (by decide)) (rp_steps_26_0 _ J2 (nI N) 1 (by decide) r2))
