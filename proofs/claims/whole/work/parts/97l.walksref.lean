/-! ===== walks, counted: the reference ===== -/
section WR
variable {C : ij_R} {d p T : Nat} {I : Nat → Nat → Int32} {ac : Nat → Int32}
theorem lN_1' : lN 1 = 1 := rfl
theorem lN_0' : lN 0 = 0 := rfl
theorem rs_w0_2 {x : Int32} (hT : T ≤ 2000) (h21 : I 0 21 = nI T) : ∀ (r t : Nat) (J : Nat → Nat → Int64), t + r = T → (∀ i, i < t → J 27 i = lN (ww p ac 0 i)) → ∃ J' : Nat → Nat → Int64, (∀ i, i < T → J' 27 i = lN (ww p ac 0 i)) ∧ (∀ q, q ≠ 27 → J' q = J q) ∧ ∀ (v : Option Value) (τ : ij_S), rk_go C 42 (33, [some (.ref 0), some (.int x), some (.int 0), none, none], [], (rk_R, I, J')) v τ → rk_go C 42 (2, [some (.ref 0), some (.int x), some (.int (nI t)), none, none], [], (rk_R, I, J)) v τ := by
  intro r
  induction r with
  | zero =>
    intro t J ht h
    have : t = T := by omega
    subst this
    exact ⟨J, h, fun _ _ => rfl, fun v τ hg => rp_walks0_2_0 I J x (nI t) (by rw [h21]; exact nI_le (Nat.le_refl t) (by omega)) hg⟩
  | succ r ih =>
    intro t J ht h
    have hge : ¬ I 0 21 ≤ nI t := by rw [h21]; exact nI_ge (by omega) (by omega)
    have hv : vp_in (nI t) 2000 := vp_in_nI (by omega) (by decide)
    obtain ⟨J', g1, g2, g3⟩ := ih (t + 1) (ij_u J 27 t (lN (ww p ac 0 t))) (by omega) (fun i hi => by
      by_cases e : i = t
      · subst e; exact ij_u_same _ _ _ _
      · rw [ij_u_other _ _ _ _ e]; exact h i (by omega))
    refine ⟨J', g1, fun q hq => (g2 q hq).trans (ij_u_ne hq), fun v τ hg => ?_⟩
    have g := g3 v τ hg
    by_cases e : t = 0
    · subst e
      exact rp_walks0_2_2 I J x (nI 0) hge rfl hv g
    · have q := rp_walks0_2_1 (C := C) (v := v) (τ := τ) I J x (nI t) hge (nI_ne0 (by omega) (by omega)) hv
      rw [nI_clamp (by omega), nI_1] at q
      refine q ?_
      have e2 : ww p ac 0 t = 0 := if_neg e
      rw [e2] at g
      exact g
/-- one tile's sum, from side s on -/
theorem rs_w0_58 {x y : Int32} {t : Nat} {g : Nat → Nat} (hp : p ≤ 8) (hT : T ≤ 2000) (ht : t < T) (h1 : I 0 1 = nI p) (hac : lr_acr p T ac) (h7 : ∀ s, s < p → I 7 (8 * t + s) = ac (8 * t + s)) : ∀ (r s : Nat) (J : Nat → Nat → Int64), s + r = p → (∀ i, i < T → J 27 i = lN (g i)) → J 28 t = lN (sm (fun s => wv g (ac (8 * t + s))) s) → ∃ J' : Nat → Nat → Int64, J' 28 t = lN (wA p ac g t) ∧ (∀ i, i ≠ t → J' 28 i = J 28 i) ∧ (∀ q, q ≠ 28 → J' q = J q) ∧ ∀ (v : Option Value) (τ : ij_S), rk_go C 42 (40, [some (.ref 0), some (.int x), some (.int y), some (.int (nI (t + 1))), none], [], (rk_R, I, J')) v τ → rk_go C 42 (58, [some (.ref 0), some (.int x), some (.int y), some (.int (nI t)), some (.int (nI s))], [], (rk_R, I, J)) v τ := by
  intro r
  induction r with
  | zero =>
    intro s J hs hJ h
    have : s = p := by omega
    subst this
    refine ⟨J, h, fun _ _ => rfl, fun _ _ => rfl, fun v τ hg => ?_⟩
    rw [← nI_1] at hg
    exact rp_walks0_58_0 I J x y (nI t) (nI s) (by rw [h1]; exact nI_le (Nat.le_refl s) (by omega)) hg
  | succ r ih =>
    intro s J hs hJ h
    have hge : ¬ I 0 1 ≤ nI s := by rw [h1]; exact nI_ge (by omega) (by omega)
    have cl : (nI (8 * t + s)).toNatClampNeg = 8 * t + s := nI_clamp (by omega)
    have ct : (nI t).toNatClampNeg = t := nI_clamp (by omega)
    rcases hac t s ht (by omega) with e | ⟨u, hu, e⟩
    · obtain ⟨J', g1, g2, g3, g4⟩ := ih (s + 1) J (by omega) hJ (by
        show J 28 t = lN (sm _ s + wv g (ac (8 * t + s)))
        rw [show wv g (ac (8 * t + s)) = 0 by unfold wv; rw [if_pos e], Nat.add_zero]
        exact h)
      refine ⟨J', g1, g2, g3, fun v τ hg => ?_⟩
      have k := g4 v τ hg
      rw [← nI_1] at k
      have q := rp_walks0_58_1 (C := C) (v := v) (τ := τ) I J x y (nI t) (nI s) hge
      rw [lr_8', cl, h7 s (by omega)] at q
      exact q (vp_in_nI (by omega) (by decide)) e k
    · obtain ⟨J', g1, g2, g3, g4⟩ := ih (s + 1) (ij_u J 28 t (J 28 t + J 27 u)) (by omega) hJ (by
        show ij_u J 28 t (J 28 t + J 27 u) 28 t = lN (sm _ s + wv g (ac (8 * t + s)))
        rw [ij_u_same, h, hJ u hu, lN_add, show wv g (ac (8 * t + s)) = g u by unfold wv; rw [e, if_neg (nI_ne_m1 (by omega)), nI_clamp (by omega)]])
      refine ⟨J', g1, fun i hi => (g2 i hi).trans (ij_u_other _ _ _ _ hi), fun q hq => (g3 q hq).trans (ij_u_ne hq), fun v τ hg => ?_⟩
      have k := g4 v τ hg
      rw [← nI_1] at k
      have q := rp_walks0_58_2 (C := C) (v := v) (τ := τ) I J x y (nI t) (nI s) hge
      rw [lr_8', cl, h7 s (by omega), e, ct, nI_clamp (show u < 2 ^ 31 by omega)] at q
      exact q (vp_in_nI (by omega) (by decide)) (nI_ne_m1 (by omega)) (vp_in_nI (by omega) (by decide)) (vp_in_nI (by omega) (by decide)) (vp_in_nI (by omega) (by decide)) (vp_in_nI (by omega) (by decide)) k
theorem rs_w0_40 {x y : Int32} {g : Nat → Nat} (hp : p ≤ 8) (hT : T ≤ 2000) (h1 : I 0 1 = nI p) (h21 : I 0 21 = nI T) (hac : lr_acr p T ac) (h7 : ∀ t s, t < T → s < p → I 7 (8 * t + s) = ac (8 * t + s)) : ∀ (r t : Nat) (J : Nat → Nat → Int64), t + r = T → (∀ i, i < T → J 27 i = lN (g i)) → (∀ i, i < t → J 28 i = lN (wA p ac g i)) → ∃ J' : Nat → Nat → Int64, (∀ i, i < T → J' 28 i = lN (wA p ac g i)) ∧ (∀ q, q ≠ 28 → J' q = J q) ∧ ∀ (v : Option Value) (τ : ij_S), rk_go C 42 (123, [some (.ref 0), some (.int x), some (.int y), some (.int 0), none], [], (rk_R, I, J')) v τ → rk_go C 42 (40, [some (.ref 0), some (.int x), some (.int y), some (.int (nI t)), none], [], (rk_R, I, J)) v τ := by
  intro r
  induction r with
  | zero =>
    intro t J ht hJ h
    have : t = T := by omega
    subst this
    exact ⟨J, h, fun _ _ => rfl, fun v τ hg => rp_walks0_40_0 I J x y (nI t) (by rw [h21]; exact nI_le (Nat.le_refl t) (by omega)) hg⟩
  | succ r ih =>
    intro t J ht hJ h
    have hge : ¬ I 0 21 ≤ nI t := by rw [h21]; exact nI_ge (by omega) (by omega)
    obtain ⟨J1, a1, a2, a3, a4⟩ := rs_w0_58 (C := C) (x := x) (y := y) (t := t) (g := g) hp hT (by omega) h1 hac (fun s hs => h7 t s (by omega) hs) p 0 (ij_u J 28 t 0) (Nat.zero_add p) hJ (ij_u_same _ _ _ _)
    obtain ⟨J', g1, g2, g3⟩ := ih (t + 1) J1 (by omega) (fun i hi => by rw [a3 27 (by decide)]; exact hJ i hi) (fun i hi => by
      by_cases e : i = t
      · subst e; exact a1
      · rw [a2 i e, ij_u_other _ _ _ _ e]; exact h i (by omega))
    refine ⟨J', g1, fun q hq => (g2 q hq).trans ((a3 q hq).trans (ij_u_ne hq)), fun v τ hg => ?_⟩
    have q := rp_walks0_40_1 (C := C) (v := v) (τ := τ) I J x y (nI t) hge (vp_in_nI (by omega) (by decide))
    rw [nI_clamp (by omega)] at q
    exact q (a4 v τ (g3 v τ hg))
theorem rs_w0_123 {x y : Int32} {g : Nat → Nat} (hT : T ≤ 2000) (h21 : I 0 21 = nI T) : ∀ (r t : Nat) (J : Nat → Nat → Int64), t + r = T → (∀ i, i < T → J 28 i = lN (g i)) → (∀ i, i < t → J 27 i = lN (g i)) → ∃ J' : Nat → Nat → Int64, (∀ i, i < T → J' 27 i = lN (g i)) ∧ (∀ q, q ≠ 27 → J' q = J q) ∧ ∀ (v : Option Value) (τ : ij_S), rk_go C 42 (33, [some (.ref 0), some (.int x), some (.int (y + 1)), none, none], [], (rk_R, I, J')) v τ → rk_go C 42 (123, [some (.ref 0), some (.int x), some (.int y), some (.int (nI t)), none], [], (rk_R, I, J)) v τ := by
  intro r
  induction r with
  | zero =>
    intro t J ht hJ h
    have : t = T := by omega
    subst this
    exact ⟨J, h, fun _ _ => rfl, fun v τ hg => rp_walks0_123_0 I J x y (nI t) (by rw [h21]; exact nI_le (Nat.le_refl t) (by omega)) hg⟩
  | succ r ih =>
    intro t J ht hJ h
    have hge : ¬ I 0 21 ≤ nI t := by rw [h21]; exact nI_ge (by omega) (by omega)
    have hv : vp_in (nI t) 2000 := vp_in_nI (by omega) (by decide)
    obtain ⟨J', g1, g2, g3⟩ := ih (t + 1) (ij_u J 27 t (J 28 t)) (by omega) hJ (fun i hi => by
      by_cases e : i = t
      · subst e; rw [ij_u_same]; exact hJ i (by omega)
      · rw [ij_u_other _ _ _ _ e]; exact h i (by omega))
    refine ⟨J', g1, fun q hq => (g2 q hq).trans (ij_u_ne hq), fun v τ hg => ?_⟩
    have k := g3 v τ hg
    have q := rp_walks0_123_1 (C := C) (v := v) (τ := τ) I J x y (nI t) hge hv hv
    rw [nI_clamp (by omega), nI_1] at q
    exact q k
/-- the reference's counts of n steps -/
theorem rs_walks0 {n : Nat} (hn : n ≤ 16) (J : Nat → Nat → Int64) (hp : p ≤ 8) (hT : T ≤ 2000) (h1 : I 0 1 = nI p) (h21 : I 0 21 = nI T) (hac : lr_acr p T ac) (h7 : ∀ t s, t < T → s < p → I 7 (8 * t + s) = ac (8 * t + s)) : ∃ J' : Nat → Nat → Int64, rk_call (d + 1) 42 [.ref 0, .int (nI n)] (rk_R, I, J) none (rk_R, I, J') ∧ (∀ i, i < T → J' 27 i = lN (ww p ac n i)) ∧ ∀ q, q ≠ 27 → q ≠ 28 → J' q = J q := by
  have key : ∀ (r k : Nat) (J : Nat → Nat → Int64), k + r = n → (∀ i, i < T → J 27 i = lN (ww p ac k i)) → ∃ J' : Nat → Nat → Int64, rk_go (rk_call d) 42 (33, [some (.ref 0), some (.int (nI n)), some (.int (nI k)), none, none], [], (rk_R, I, J)) none (rk_R, I, J') ∧ (∀ i, i < T → J' 27 i = lN (ww p ac n i)) ∧ ∀ q, q ≠ 27 → q ≠ 28 → J' q = J q := by
    intro r
    induction r with
    | zero =>
      intro k J hk h
      have : k = n := by omega
      subst this
      exact ⟨J, rp_walks0_33_0 I J (nI k) (nI k) (nI_le (Nat.le_refl k) (by omega)), h, fun _ _ _ => rfl⟩
    | succ r ih =>
      intro k J hk h
      obtain ⟨J1, a1, a2, a3⟩ := rs_w0_40 (C := rk_call d) (x := nI n) (y := nI k) (g := ww p ac k) hp hT h1 h21 hac h7 T 0 J (Nat.zero_add T) h (fun i hi => by omega)
      obtain ⟨J2, b1, b2, b3⟩ := rs_w0_123 (C := rk_call d) (x := nI n) (y := nI k) (g := ww p ac (k + 1)) (I := I) hT h21 T 0 J1 (Nat.zero_add T) a1 (fun i hi => by omega)
      obtain ⟨J', g1, g2, g3⟩ := ih (k + 1) J2 (by omega) b1
      rw [← nI_1] at g1
      exact ⟨J', rp_walks0_33_1 I J (nI n) (nI k) (nI_ge (by omega) (by omega)) (a3 _ _ (b3 _ _ g1)), g2, fun q q1 q2 => (g3 q q1 q2).trans ((b2 q q1).trans (a2 q q2))⟩
  obtain ⟨J0, z1, z2, z3⟩ := rs_w0_2 (C := rk_call d) (x := nI n) (p := p) (ac := ac) hT h21 T 0 J (Nat.zero_add T) (fun i hi => by omega)
  obtain ⟨J', g1, g2, g3⟩ := key n 0 J0 (Nat.zero_add n) z1
  exact ⟨J', ij_cr_of (Nat.le_of_ble_eq_true rfl) (rp_walks0_0_0 I J (nI n) (z3 _ _ g1)), g2, fun q q1 q2 => (g3 q q1 q2).trans (z2 q q1)⟩
/-- isLong -/
theorem rs_isLong_y {n : Nat} (hn : n ≤ 16) (what : Int32) (J : Nat → Nat → Int64) (h0 : I 0 0 = 0) (hw : ¬ what = 0) : rk_call (d + 2) 43 [.ref 0, .int (nI n), .int what] (rk_R, I, J) (some (.int 1)) (rk_R, I, J) :=
  ij_cr_of (Nat.le_of_ble_eq_true rfl) (rp_isLong_0_2 I J (nI n) what (nI_pos (by omega)) (nI_nlt (a := 16) (b := n) (by omega) (by omega)) 1 (rs_right d I J 1 what h0 hw) (rp_isLong_20_0 I J 1 (Or.inr rfl)))
theorem rs_isLong_n {x : Int32} (hx : x < 0 ∨ 16 < x) (what : Int32) (J : Nat → Nat → Int64) (h0 : I 0 0 = 0) (hw : ¬ what = 0) : rk_call (d + 2) 43 [.ref 0, .int x, .int what] (rk_R, I, J) (some (.int 0)) (rk_R, ij_u I 0 0 what, J) := by
  refine ij_cr_of (Nat.le_of_ble_eq_true rfl) ?_
  by_cases h : x < 0
  · exact rp_isLong_0_0 I J x what h 0 (rs_right d I J 0 what h0 hw) (rp_isLong_20_0 _ J 0 (Or.inl rfl))
  · exact rp_isLong_0_1 I J x what h (hx.resolve_left h) 0 (rs_right d I J 0 what h0 hw) (rp_isLong_20_0 _ J 0 (Or.inl rfl))
end WR
