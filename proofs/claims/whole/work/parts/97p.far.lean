/-! ===== far: both answer alike ===== -/
theorem lg_0 {n : Nat} (h : n < 2 ^ 63) : lg_cmp (lN n) 0 = 0 ↔ n = 0 := by
  unfold lg_cmp
  by_cases e : n = 0
  · subst e
    exact ⟨fun _ => rfl, fun _ => by decide⟩
  · have hp : lN n > 0 := (pk_lLT (a := 0) (b := n) (by decide) h).mpr (by omega)
    rw [if_pos hp]
    exact ⟨fun q => absurd q (by decide), fun q => absurd q e⟩
theorem lg_pos {n : Nat} (h0 : 0 < n) (h : n < 2 ^ 63) : 0 < lg_cmp (lN n) 0 := by
  have hp : lN n > 0 := (pk_lLT (a := 0) (b := n) (by decide) h).mpr h0
  unfold lg_cmp
  rw [if_pos hp]
  decide
theorem lN_ne0 {n : Nat} (h0 : 0 < n) (h : n < 2 ^ 63) : ¬ lN n = 0 := fun e => absurd ((pk_lEQ (a := n) (b := 0) h (by decide)).mp e) (by omega)
theorem eu_gcd (a c : Nat) : Nat.gcd a c = Nat.gcd c (a % c) := by
  rw [Nat.gcd_comm a c, Nat.gcd_rec c a, Nat.gcd_comm]
section WF
variable {X : ij_R} {d : Nat} {b : Bool} {I : Nat → Nat → Int32} {J : Nat → Nat → Int64} {C : ij_R}
theorem lx_gcd_9 : ∀ (k a c i : Nat), a < 2 ^ 62 → c < 2 ^ k → k ≤ 62 → i + 2 * k ≤ 100 → xk_go C 146 (9, [none, none, none, none, some (.long (lN a)), none, some (.long (lN c)), none, some (.int (nI i)), none, none], [], (xk_R b, I, J)) (some (.long (lN (Nat.gcd a c)))) (xk_R b, I, J) := by
  intro k
  induction k with
  | zero =>
    intro a c i ha hc hk hi
    have : c = 0 := by simpa using hc
    subst this
    rw [Nat.gcd_zero_right]
    by_cases h : 100 ≤ i
    · exact xp_X10_commonDivisor_9_0 I J (nI i) (lN a) (lN 0) (nI_le (a := 100) h (by omega))
    · exact xp_X10_commonDivisor_9_1 I J (nI i) (lN a) (lN 0) (nI_ge (b := 100) (by omega) (by decide)) (by decide)
  | succ k ih =>
    intro a c i ha hc hk hi
    have hc62 : c < 2 ^ 62 := Nat.lt_of_lt_of_le hc (Nat.pow_le_pow_right (by decide) hk)
    have hlt : ¬ (100 : Int32) ≤ nI i := nI_ge (b := 100) (by omega) (by decide)
    by_cases h0 : c = 0
    · subst h0
      rw [Nat.gcd_zero_right]
      exact xp_X10_commonDivisor_9_1 I J (nI i) (lN a) (lN 0) hlt (by decide)
    · refine xp_X10_commonDivisor_9_2 I J (nI i) (lN a) (lN c) hlt (fun q => h0 ((lg_0 (by omega)).mp q)) (lN_ne0 (by omega) (by omega)) ?_
      rw [pk_lRem (by omega) (by omega) (by omega), nI_1]
      have hr : a % c < c := Nat.mod_lt _ (by omega)
      have hlt1 : ¬ (100 : Int32) ≤ nI (i + 1) := nI_ge (b := 100) (by omega) (by decide)
      by_cases h1 : a % c = 0
      · rw [h1, eu_gcd, h1, Nat.gcd_zero_right]
        exact xp_X10_commonDivisor_9_1 I J (nI (i + 1)) (lN c) (lN 0) hlt1 (by decide)
      · refine xp_X10_commonDivisor_9_2 I J (nI (i + 1)) (lN c) (lN (a % c)) hlt1 (fun q => h1 ((lg_0 (by omega)).mp q)) (lN_ne0 (by omega) (by omega)) ?_
        rw [pk_lRem (by omega) (by omega) (by omega), nI_1]
        have hh : 2 * (c % (a % c)) < c := eu_half (by omega) hr
        have g := ih (a % c) (c % (a % c)) (i + 1 + 1) (by omega) (by rw [Nat.pow_succ] at hc; omega) (by omega) (by omega)
        rw [eu_gcd, eu_gcd c]
        exact g
theorem lx_gcd {a c : Nat} (ha : a < 2 ^ 62) (hc : c < 2 ^ 50) : lk_cx1 X (d + 1) 146 [.long (lN a), .long (lN c)] (xk_R b, I, J) (some (.long (lN (Nat.gcd a c)))) (xk_R b, I, J) :=
  ik_cr_of (Nat.le_of_ble_eq_true rfl) (xp_X10_commonDivisor_0_0 I J (lN a) (lN c) (lx_gcd_9 50 a c 0 ha hc (by decide) (by decide)))
theorem rs_gcd {x2 : Int32} {A S : Nat} (hA : A < 2 ^ 62) (hS : S < 2 ^ 62) : ∀ (m a c : Nat), c < m → a < 2 ^ 62 → c < 2 ^ 62 → 0 < Nat.gcd a c → rk_go C 46 (129, [none, none, some (.int x2), some (.long (lN A)), none, some (.long (lN S)), none, some (.long (lN a)), none, some (.long (lN c)), none, none, none], [], (rk_R, I, J)) (some (.long (if x2 = 0 then lN (S / Nat.gcd a c) else lN (A / Nat.gcd a c)))) (rk_R, I, J) := by
  intro m
  induction m with
  | zero => intro a c h; omega
  | succ m ih =>
    intro a c hm ha hc hg
    by_cases h0 : c = 0
    · subst h0
      rw [Nat.gcd_zero_right] at hg ⊢
      by_cases hx : x2 = 0
      · rw [if_pos hx, ← pk_lDiv (by omega) hg (by omega)]
        exact rp_far_129_1 I J x2 (lN A) (lN S) (lN a) (lN 0) (by decide) hx (lN_ne0 hg (by omega))
      · rw [if_neg hx, ← pk_lDiv (by omega) hg (by omega)]
        exact rp_far_129_0 I J x2 (lN A) (lN S) (lN a) (lN 0) (by decide) hx (lN_ne0 hg (by omega))
    · refine rp_far_129_2 I J x2 (lN A) (lN S) (lN a) (lN c) (fun q => h0 ((lg_0 (by omega)).mp q)) (lN_ne0 (by omega) (by omega)) ?_
      rw [pk_lRem (by omega) (by omega) (by omega)]
      have hr : a % c < c := Nat.mod_lt _ (by omega)
      rw [eu_gcd] at hg ⊢
      exact ih c (a % c) (by omega) hc (by omega) hg
theorem rs_far_60 {n p : Nat} {x2 : Int32} {v : Option Value} {τ : ij_S} (hn : n ≤ 16) (hp : p ≤ 8) (h1 : I 0 1 = nI p) (hg : rk_go C 46 (86, [some (.ref 0), none, some (.int x2), some (.long (lN (p ^ n))), none, some (.long 0), none, some (.int 0), none, none, none, none, none], [], (rk_R, I, J)) v τ) : ∀ (r k : Nat), k + r = n → rk_go C 46 (60, [some (.ref 0), some (.int (nI n)), some (.int x2), some (.long (lN (p ^ k))), none, some (.int (nI k)), none, none, none, none, none, none, none], [], (rk_R, I, J)) v τ := by
  intro r
  induction r with
  | zero =>
    intro k hk
    have : k = n := by omega
    subst this
    exact rp_far_60_0 I J (nI k) x2 (nI k) _ (nI_le (Nat.le_refl k) (by omega)) hg
  | succ r ih =>
    intro k hk
    have g := ih (k + 1) (by omega)
    rw [← nI_1] at g
    refine rp_far_60_1 I J (nI n) x2 (nI k) _ (nI_ge (by omega) (by omega)) ?_
    rw [h1, nI_l (by omega), lN_mul]
    exact g
theorem rs_far_86 {T : Nat} {x2 : Int32} {A : Int64} {v : Option Value} {τ : ij_S} {rg g : Nat → Nat} (hT : T ≤ 2000) (h21 : I 0 21 = nI T) (h8 : ∀ t, t < T → I 8 t = nI (rg t) ∧ rg t < 64) (hJ : ∀ t, t < T → J 27 t = lN (g t)) (hg : rk_go C 46 (129, [none, none, some (.int x2), some (.long A), none, some (.long (lN (sm (fun t => rg t * g t) T))), none, some (.long A), none, some (.long (lN (sm (fun t => rg t * g t) T))), none, none, none], [], (rk_R, I, J)) v τ) : ∀ (r t : Nat), t + r = T → rk_go C 46 (86, [some (.ref 0), none, some (.int x2), some (.long A), none, some (.long (lN (sm (fun t => rg t * g t) t))), none, some (.int (nI t)), none, none, none, none, none], [], (rk_R, I, J)) v τ := by
  intro r
  induction r with
  | zero =>
    intro t ht
    have : t = T := by omega
    subst this
    exact rp_far_86_0 I J x2 (nI t) A _ (by rw [h21]; exact nI_le (Nat.le_refl t) (by omega)) hg
  | succ r ih =>
    intro t ht
    have k := ih (t + 1) (by omega)
    rw [← nI_1] at k
    have q := rp_far_86_1 (C := C) (v := v) (τ := τ) I J x2 (nI t) A (lN (sm (fun t => rg t * g t) t)) (by rw [h21]; exact nI_ge (by omega) (by omega)) (vp_in_nI (by omega) (by decide)) (vp_in_nI (by omega) (by decide))
    rw [nI_clamp (by omega), (h8 t (by omega)).1, nI_l (by have := (h8 t (by omega)).2; omega), hJ t (by omega), lN_mul, lN_add] at q
    exact q k
end WF
theorem lw_pow {p n : Nat} (hp : p ≤ 8) (hn : n ≤ 16) : p ^ n ≤ 2 ^ 48 :=
  Nat.le_trans (Nat.pow_le_pow_left hp n) (Nat.le_trans (Nat.pow_le_pow_right (by decide) hn) (by decide))
theorem lq_far {X : ij_R} {d : Nat} {R : lk_Rl} (h : lk_walks R) : lk_q_far X (d + 5) R := by
  intro x y b I J I2 J2 hR
  obtain ⟨p, T, M, rg, hb, ht, hk⟩ := h b I J I2 J2 hR
  have hb' := hb
  obtain ⟨b1, b2, b3, b4, b5, b6, b7, b7', b8, b9, b10, b11, b12, b13, b14⟩ := hb'
  have hR' : ∀ v, R b I J (ij_u (ij_u I2 0 0 0) 0 0 v) J2 := fun v => hk b I J _ J2 (fun _ _ _ => rfl) (fun _ _ _ => rfl) (fun p k h => (lw_u0 _ v p k h).trans (lw_u0 I2 0 p k h)) (fun _ _ _ => rfl) ht
  by_cases hy : y < 0 ∨ 1 < y
  · refine Or.inr (Or.inr ⟨0, b, I, J, ij_u (ij_u I2 0 0 0) 0 0 1, J2, ?_, ?_, rfl, hR' 1⟩)
    · refine lx_of (by decide) (Nat.le_of_ble_eq_true rfl) ?_
      by_cases h0 : y < 0
      · exact xp_X10_far_0_0 I J x y h0 (by decide)
      · exact xp_X10_far_0_2 I J x y h0 (Int32.not_le.mpr (hy.resolve_left h0)) (by decide)
    · have e0 : ¬ y = 0 := fun q => by subst q; exact absurd hy (by decide)
      have e1 : ¬ y = 1 := fun q => by subst q; exact absurd hy (by decide)
      exact ij_cr_of (Nat.le_of_ble_eq_true rfl) (rp_far_0_1 I2 J2 x y e0 e1 0 (rs_right (d + 4) (ij_u I2 0 0 0) J2 0 1 rfl (by decide)) (rp_far_24_0 _ J2 x y 0 rfl))
  · have hy0 : ¬ y < 0 := fun q => hy (Or.inl q)
    have hy1 : y ≤ 1 := Int32.not_lt.mp (fun q => hy (Or.inr q))
    -- the reference: what is right
    have href : ∀ (v : Option Value) (τ : ij_S), rk_go (rk_call (d + 5)) 46 (24, [some (.ref 0), some (.int x), some (.int y), none, none, none, none, none, none, none, none, none, none], [.int 1], (rk_R, ij_u I2 0 0 0, J2)) v τ → lk_cr1 (d + 6) 46 [.ref 0, .int x, .int y] (rk_R, I2, J2) v τ := fun v τ hg => by
      have hr := rs_right (d + 4) (ij_u I2 0 0 0) J2 1 1 rfl (by decide)
      refine ij_cr_of (Nat.le_of_ble_eq_true rfl) ?_
      by_cases e0 : y = 0
      · exact rp_far_0_0 I2 J2 x y e0 1 hr hg
      · have e1 : y = 1 := by
          obtain ⟨j, hj, rfl⟩ := nI_of2 (M := 1) (n := 1) (by decide) hy0 hy1
          rcases (show j = 0 ∨ j = 1 by omega) with rfl | rfl
          · exact absurd rfl e0
          · rfl
        exact rp_far_0_2 I2 J2 x y e0 e1 1 hr hg
    by_cases hx : x < 0 ∨ 16 < x
    · refine Or.inr (Or.inl ⟨0, b, I, J, ij_u (ij_u I2 0 0 0) 0 0 2, J2, ?_, ?_, rfl, hR' 2⟩)
      · exact lx_of (by decide) (Nat.le_of_ble_eq_true rfl) (xp_X10_far_0_1_t I J x y hy0 hy1 (by decide) (lx_nws_n hx))
      · exact href _ _ (rp_far_24_1 (ij_u I2 0 0 0) J2 x y 1 (by decide) 0 (rs_isLong_n (d := d + 3) hx 2 J2 rfl (by decide)) (rp_far_33_2 _ J2 x y 0 rfl))
    · obtain ⟨n, hn, rfl⟩ := nI_of2 (M := 16) (n := 16) (by decide) (fun q => hx (Or.inl q)) (Int32.not_lt.mp (fun q => hx (Or.inr q)))
      by_cases hM : n ≤ M
      · obtain ⟨b', I', J', g1, g2, g3, g4⟩ := lx_walkTo (X := X) (d := d) hn b I J hb ht
        obtain ⟨J2', k1, k2, k3⟩ := rs_walks0 (d := d + 4) (I := ij_u I2 0 0 0) (ac := I 9) hn J2 b7 b8 b2 b4 b11.1 b12
        have e9 : I' 9 = I 9 := funext (fun k => g3 9 k (by omega))
        have hpw : p ^ n ≤ 2 ^ 48 := lw_pow b7 hn
        have hpp : 0 < p ^ n := Nat.pow_pos b7'
        have hfar : sm (fun t => rg t * ww p (I 9) n t) T ≤ 64 * p ^ n := ww_far b8 b11 b14 n
        have hg0 : 0 < Nat.gcd (sm (fun t => rg t * ww p (I 9) n t) T) (p ^ n) := Nat.gcd_pos_of_pos_right _ hpp
        have hgle : Nat.gcd (sm (fun t => rg t * ww p (I 9) n t) T) (p ^ n) ≤ p ^ n := Nat.gcd_le_right _ hpp
        have h10 : ∀ t, t < T → I 10 t = nI (rg t) ∧ rg t < 64 := fun t ht => ⟨(b13 t ht).1, b14.2.1 t ht⟩
        refine Or.inl ⟨if y = 0 then lN (sm (fun t => rg t * ww p (I 9) n t) T / Nat.gcd (p ^ n) (sm (fun t => rg t * ww p (I 9) n t) T)) else lN (p ^ n / Nat.gcd (p ^ n) (sm (fun t => rg t * ww p (I 9) n t) T)), b', I', J', ij_u I2 0 0 0, J2', ?_, ?_, rfl, hk b' I' J' _ J2' g3 g4 (lw_u0 I2 0) k3 (Or.inr ⟨n, hn, g2⟩)⟩
        · have hring := lx_rings_10 (X := X) (d := d + 2) (b := b') (I := I') (J := J') (g := ww p (I 9) n) (rg := rg) b8 ((g3 6 9 (by omega)).trans b3) (fun t ht => ⟨(g3 10 t (by omega)).trans (h10 t ht).1, (h10 t ht).2⟩) (fun t ht => by rw [g2.2.1 t ht, e9]) T 0 (Nat.zero_add T)
          have hall := lx_all_5 (X := X) (d := d + 3) (b := b') (I := I') (J := J') hn b7 ((g3 6 8 (by omega)).trans b1) n 0 (Nat.zero_add n)
          have hgcd := lx_gcd (X := X) (d := d + 3) (b := b') (I := I') (J := J') (a := sm (fun t => rg t * ww p (I 9) n t) T) (c := p ^ n) (by omega) (by omega)
          rw [Nat.gcd_comm (p ^ n)]
          refine lx_of (by decide) (Nat.le_of_ble_eq_true rfl) (xp_X10_far_0_1 I J (nI n) y hy0 hy1 (by decide) (lx_nws_y hn) (xp_X10_far_22_0 I J (nI n) y _ (by rw [b5]; exact nI_le hM (by omega)) (ik_cr_of (Nat.le_of_ble_eq_true rfl) (xp_X9_ringsTogether_0_0 I J (nI n) g1 (xp_X9_ringsTogether_5_0 I' J' hring))) (xp_X10_far_45_0 I' J' (nI n) y _ _ (ik_cr_of (Nat.le_of_ble_eq_true rfl) (xp_X9_allWalks_0_0 I' J' (nI n) hall)) (xp_X10_far_54_0 I' J' y _ _ _ hgcd ?_))))
          by_cases e0 : y = 0
          · rw [if_pos e0, ← pk_lDiv (by omega) hg0 (by omega)]
            exact xp_X10_far_62_1 I' J' y _ _ _ (lg_pos hg0 (by omega)) e0 (lN_ne0 hg0 (by omega))
          · rw [if_neg e0, ← pk_lDiv (by omega) hg0 (by omega)]
            exact xp_X10_far_62_0 I' J' y _ _ _ (lg_pos hg0 (by omega)) e0 (lN_ne0 hg0 (by omega))
        · have hgc := rs_gcd (C := rk_call (d + 5)) (I := ij_u I2 0 0 0) (J := J2') (x2 := y) (A := p ^ n) (S := sm (fun t => rg t * ww p (I 9) n t) T) (by omega) (by omega) (sm (fun t => rg t * ww p (I 9) n t) T + 1) (p ^ n) (sm (fun t => rg t * ww p (I 9) n t) T) (by omega) (by omega) (by omega) (by rw [Nat.gcd_comm]; exact hg0)
          have h86 := rs_far_86 (C := rk_call (d + 5)) (I := ij_u I2 0 0 0) (J := J2') (x2 := y) (A := lN (p ^ n)) (rg := rg) (g := ww p (I 9) n) b8 b4 (fun t ht => ⟨(b13 t ht).2, b14.2.1 t ht⟩) k2 hgc T 0 (Nat.zero_add T)
          have h60 := rs_far_60 (C := rk_call (d + 5)) (I := ij_u I2 0 0 0) (J := J2') (x2 := y) hn b7 b2 h86 n 0 (Nat.zero_add n)
          exact href _ _ (rp_far_24_1 (ij_u I2 0 0 0) J2 (nI n) y 1 (by decide) 1 (rs_isLong_y (d := d + 3) hn 2 J2 rfl (by decide)) (rp_far_33_0 (ij_u I2 0 0 0) J2 (nI n) y 1 (by decide) (by show nI n ≤ I2 0 22; rw [b6]; exact nI_le hM (by omega)) k1 (rp_far_55_0 _ J2' (nI n) y h60)))
      · refine Or.inl ⟨-1, b, I, J, ij_u I2 0 0 0, J2, ?_, ?_, rfl, hk b I J _ J2 (fun _ _ _ => rfl) (fun _ _ _ => rfl) (lw_u0 I2 0) (fun _ _ _ => rfl) ht⟩
        · exact lx_of (by decide) (Nat.le_of_ble_eq_true rfl) (xp_X10_far_0_1 I J (nI n) y hy0 hy1 (by decide) (lx_nws_y hn) (xp_X10_far_22_1 I J (nI n) y (by rw [b5]; exact nI_ge (by omega) (by omega))))
        · exact href _ _ (rp_far_24_1 (ij_u I2 0 0 0) J2 (nI n) y 1 (by decide) 1 (rs_isLong_y (d := d + 3) hn 2 J2 rfl (by decide)) (rp_far_33_1 (ij_u I2 0 0 0) J2 (nI n) y 1 (by decide) (by show ¬ nI n ≤ I2 0 22; rw [b6]; exact nI_ge (by omega) (by omega))))
