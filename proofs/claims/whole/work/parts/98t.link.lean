/-! ===== closed boards: the class links and seeks ===== -/
section CH3
variable {X : ij_R} {d n p : Nat} {b : Bool} {J : Nat → Nat → Int64} {a : List Nat}
theorem lx_lk31 {s : Nat} (hn : n < 7) (hs : s < 8) : ∀ (r t : Nat) (I : Nat → Nat → Int32), t + r = n → I 28 7 = nI n → ∃ I' : Nat → Nat → Int32, (∀ v τ, xk_go (ik_cr xk_P xk_M xk_Y xk_K X (d + 2)) 15 (61, [some (.ref 28), some (.int (nI s)), none, some (.int 0), none, none], [], (xk_R b, I', J)) v τ → xk_go (ik_cr xk_P xk_M xk_Y xk_K X (d + 2)) 15 (31, [some (.ref 28), some (.int (nI s)), none, some (.int (nI t)), none, none], [], (xk_R b, I, J)) v τ) ∧ (∀ u, t ≤ u → u < n → I' 30 (6 * (s + 1) + u) = I 30 (6 * s + u)) ∧ (∀ y, (y < 6 * (s + 1) + t ∨ 6 * (s + 1) + 6 ≤ y) → I' 30 y = I 30 y) ∧ ∀ q, q ≠ 30 → I' q = I q := by
  intro r
  induction r with
  | zero =>
    intro t I ht h7
    have : t = n := by omega
    subst this
    exact ⟨I, fun v τ hg => xp_X1_link_31_0 I J _ _ (by rw [h7]; exact nI_le (Nat.le_refl t) (by omega)) hg, fun u h1 h2 => by omega, fun _ _ => rfl, fun _ _ => rfl⟩
  | succ r ih =>
    intro t I ht h7
    obtain ⟨I', g1, g2, g3, g4⟩ := ih (t + 1) (ij_u I 30 (6 * (s + 1) + t) (I 30 (6 * s + t))) (by omega) h7
    refine ⟨I', fun v τ hg => ?_, fun u h1 h2 => ?_, fun y hy => ?_, fun q hq => (g4 q hq).trans (ij_u_ne hq)⟩
    · have k := g1 v τ hg
      rw [← nI_1] at k
      have q := xp_X1_link_31_1 (C := ik_cr xk_P xk_M xk_Y xk_K X (d + 2)) (v := v) (τ := τ) (b := b) (b' := b) (I' := I) (J' := J) I J (nI s) (nI t) (I 30 (6 * s + t)) (by rw [h7]; exact nI_ge (by omega) (by omega)) (lx_groupOf (by omega) (by omega))
      rw [nI_1] at q
      exact q (xp_X1_link_50_0 I J _ _ _ _ _ (lx_setGroup (d := d + 1) (by omega) (by omega)) (xp_X1_link_53_0 _ J _ _ k))
    · by_cases e : u = t
      · subst e
        rw [g3 _ (by omega), ij_u_same]
      · rw [g2 u (by omega) h2, ij_u_other _ _ _ _ (by omega)]
    · rw [g3 y (by omega), ij_u_other _ _ _ _ (by omega)]
theorem lx_lk96 {s i jn : Nat} {g : Nat → Nat} (hn : n < 7) (hs : s < 8) (hj : jn < 64) : ∀ (r o : Nat) (I : Nat → Nat → Int32), o + r = n → I 28 7 = nI n → (∀ u, u < n → I 30 (6 * (s + 1) + u) = nI (if u < o then cb_jn g jn u else g u)) → ∃ I' : Nat → Nat → Int32, (∀ v τ, xk_go (ik_cr xk_P xk_M xk_Y xk_K X (d + 2)) 15 (61, [some (.ref 28), some (.int (nI s)), none, some (.int (nI (i + 1))), none, none], [], (xk_R b, I', J)) v τ → xk_go (ik_cr xk_P xk_M xk_Y xk_K X (d + 2)) 15 (96, [some (.ref 28), some (.int (nI s)), none, some (.int (nI i)), some (.int (nI jn)), some (.int (nI o))], [], (xk_R b, I, J)) v τ) ∧ (∀ u, u < n → I' 30 (6 * (s + 1) + u) = nI (cb_jn g jn u)) ∧ (∀ y, (y < 6 * (s + 1) ∨ 6 * (s + 1) + 6 ≤ y) → I' 30 y = I 30 y) ∧ ∀ q, q ≠ 30 → I' q = I q := by
  intro r
  induction r with
  | zero =>
    intro o I ho h7 hg
    have : o = n := by omega
    subst this
    refine ⟨I, fun v τ k => ?_, fun u hu => by rw [hg u hu, if_pos hu], fun _ _ => rfl, fun _ _ => rfl⟩
    rw [← nI_1] at k
    exact xp_X1_link_96_0 I J _ _ _ _ (by rw [h7]; exact nI_le (Nat.le_refl o) (by omega)) k
  | succ r ih =>
    intro o I ho h7 hg
    have hge : ¬ I 28 7 ≤ nI o := by rw [h7]; exact nI_ge (by omega) (by omega)
    by_cases e : jn.testBit o = true
    · obtain ⟨I', g1, g2, g3, g4⟩ := ih (o + 1) (ij_u I 30 (6 * (s + 1) + o) (nI jn)) (by omega) h7 (fun u hu => by
        by_cases eu : u = o
        · subst eu
          rw [ij_u_same, if_pos (by omega)]
          unfold cb_jn
          rw [if_pos e]
        · rw [ij_u_other _ _ _ _ (by omega), hg u hu]
          by_cases lt : u < o
          · rw [if_pos lt, if_pos (by omega)]
          · rw [if_neg lt, if_neg (by omega)])
      refine ⟨I', fun v τ hgo => ?_, g2, fun y hy => by rw [g3 y hy, ij_u_other _ _ _ _ (by omega)], fun q hq => (g4 q hq).trans (ij_u_ne hq)⟩
      have k := g1 v τ hgo
      rw [← nI_1] at k
      have q := xp_X1_link_96_2 (C := ik_cr xk_P xk_M xk_Y xk_K X (d + 2)) (v := v) (τ := τ) (b := b) (b' := b) (I' := ij_u I 30 (6 * (s + 1) + o) (nI jn)) (J' := J) I J (nI s) (nI i) (nI jn) (nI o) hge ((cb_bit64 ⟨jn, hj⟩ ⟨o, by omega⟩).mpr e)
      rw [nI_1] at q
      exact q (lx_setGroup (d := d + 1) (by omega) (by omega)) (xp_X1_link_127_0 _ J _ _ _ _ k)
    · obtain ⟨I', g1, g2, g3, g4⟩ := ih (o + 1) I (by omega) h7 (fun u hu => by
        rw [hg u hu]
        by_cases lt : u < o
        · rw [if_pos lt, if_pos (by omega)]
        · rw [if_neg lt]
          by_cases eu : u = o
          · subst eu
            rw [if_pos (by omega)]
            unfold cb_jn
            rw [if_neg e]
          · rw [if_neg (by omega)])
      refine ⟨I', fun v τ hgo => ?_, g2, g3, g4⟩
      have k := g1 v τ hgo
      rw [← nI_1] at k
      exact xp_X1_link_96_1 I J _ _ _ _ hge (fun q => e ((cb_bit64 ⟨jn, hj⟩ ⟨o, by omega⟩).mp q)) k
theorem lx_lk61 {s : Nat} (hn : n < 7) (hs : s < 8) (hal : a.length = s + 1) (hok : cb_ok n (s + 1) a) : ∀ (r i : Nat) (I : Nat → Nat → Int32) (g : Nat → Nat), i + r = n → I 28 7 = nI n → cb_xn n I → cb_ch a I → (∀ u, u < n → I 30 (6 * (s + 1) + u) = nI (g u)) → cb_P n a s i g → ∃ (I' : Nat → Nat → Int32) (g' : Nat → Nat), xk_go (ik_cr xk_P xk_M xk_Y xk_K X (d + 2)) 15 (61, [some (.ref 28), some (.int (nI s)), none, some (.int (nI i)), none, none], [], (xk_R b, I, J)) none (xk_R b, I', J) ∧ (∀ u, u < n → I' 30 (6 * (s + 1) + u) = nI (g' u)) ∧ cb_P n a s n g' ∧ (∀ y, (y < 6 * (s + 1) ∨ 6 * (s + 1) + 6 ≤ y) → I' 30 y = I 30 y) ∧ ∀ q, q ≠ 30 → I' q = I q := by
  have p64 := cb_pow64 hn
  intro r
  induction r with
  | zero =>
    intro i I g hi h7 hx hc hg hP
    have : i = n := by omega
    subst this
    exact ⟨I, g, xp_X1_link_61_0 I J _ _ (by rw [h7]; exact nI_le (Nat.le_refl i) (by omega)), hg, hP, fun _ _ => rfl, fun _ _ => rfl⟩
  | succ r ih =>
    intro i I g hi h7 hx hc hg hP
    have hw : cb_b n a s i < n := cb_b_lt hn hok (Nat.lt_succ_self s) (by omega)
    have l1 := (hP.1 i (by omega)).1
    have l2 := (hP.1 _ hw).1
    have lj : g i ||| g (cb_b n a s i) < 2 ^ n := Nat.or_lt_two_pow l1 l2
    obtain ⟨I1, g1, g2, g3, g4⟩ := lx_lk96 (X := X) (d := d) (b := b) (J := J) (s := s) (i := i) (jn := g i ||| g (cb_b n a s i)) (g := g) hn hs (by omega) n 0 I (Nat.zero_add n) h7 (fun u hu => by rw [hg u hu, if_neg (Nat.not_lt_zero u)])
    obtain ⟨I', g', k1, k2, k3, k4, k5⟩ := ih (i + 1) I1 (cb_jn g (g i ||| g (cb_b n a s i))) (by omega) (by rw [g4 28 (by decide)]; exact h7) (by unfold cb_xn; rw [g4 23 (by decide), g4 24 (by decide)]; exact hx) (by unfold cb_ch; rw [g4 29 (by decide)]; exact hc) g2 (cb_P_step hn hok (by omega) hP)
    refine ⟨I', g', ?_, k2, k3, fun y hy => (k4 y hy).trans (g3 y hy), fun q hq => (k5 q hq).trans (g4 q hq)⟩
    have go1 := lx_groupOf (X := X) (d := d) (b := b) (J := J) (I := I) (k := s + 1) (t := i) (by omega) (by omega)
    rw [hg i (by omega)] at go1
    have go2 := lx_groupOf (X := X) (d := d) (b := b) (J := J) (I := I) (k := s + 1) (t := cb_b n a s i) (by omega) (by omega)
    rw [hg _ hw] at go2
    have q := xp_X1_link_61_1 (C := ik_cr xk_P xk_M xk_Y xk_K X (d + 2)) (v := none) (τ := (xk_R b, I', J)) (b := b) (b' := b) (I' := I) (J' := J) I J (nI s) (nI i) (nI (g i)) (by rw [h7]; exact nI_ge (by omega) (by omega))
    rw [nI_1] at q
    refine q go1 ?_
    have q2 := xp_X1_link_77_0 (C := ik_cr xk_P xk_M xk_Y xk_K X (d + 2)) (v := none) (τ := (xk_R b, I', J)) (b := b) (b' := b) (I' := I) (J' := J) I J (nI s) (nI i) (nI (g i)) (nI (cb_b n a s i)) (lx_across hn hs hx hc (by omega) (hok s (Nat.lt_succ_self s)) (by omega))
    rw [nI_1] at q2
    refine q2 (xp_X1_link_87_0 I J _ _ _ _ _ _ go2 (xp_X1_link_90_0 I J _ _ _ _ ?_))
    rw [cb_or64 ⟨g i, by omega⟩ ⟨g (cb_b n a s i), by omega⟩]
    exact g1 _ _ k1
theorem lx_link {s : Nat} {I : Nat → Nat → Int32} (hn1 : 1 ≤ n) (hn : n < 7) (hs : s < 8) (hal : a.length = s + 1) (hok : cb_ok n (s + 1) a) (h7 : I 28 7 = nI n) (hx : cb_xn n I) (hc : cb_ch a I) (hL : cb_L n a s I) : ∃ I' : Nat → Nat → Int32, lk_cx1 X (d + 3) 15 [.ref 28, .int (nI s)] (xk_R b, I, J) none (xk_R b, I', J) ∧ cb_L n a (s + 1) I' ∧ (∀ y, (y < 6 * (s + 1) ∨ 6 * (s + 1) + 6 ≤ y) → I' 30 y = I 30 y) ∧ ∀ q, q ≠ 30 → I' q = I q := by
  have p64 := cb_pow64 hn
  have p1 : 1 ≤ 2 ^ n := Nat.one_le_two_pow
  have ew : (1 : Int32) <<< (I 28 7 &&& 31) - 1 = nI (2 ^ n - 1) := by
    rw [h7, cb_shl6 ⟨n, hn⟩]
    exact nI_sub1 p1
  have g0 := lx_groupOf (X := X) (d := d) (b := b) (J := J) (I := I) (k := s) (t := 0) (by omega) (by decide)
  have start : ∀ v τ, xk_go (ik_cr xk_P xk_M xk_Y xk_K X (d + 2)) 15 (15, [some (.ref 28), some (.int (nI s)), some (.int (nI (2 ^ n - 1))), none, none, none], [.int (I 30 (6 * s + 0))], (xk_R b, I, J)) v τ → lk_cx1 X (d + 3) 15 [.ref 28, .int (nI s)] (xk_R b, I, J) v τ := fun v τ hg => by
    have q := xp_X1_link_0_0 (C := ik_cr xk_P xk_M xk_Y xk_K X (d + 2)) (v := v) (τ := τ) (b := b) (b' := b) (I' := I) (J' := J) I J (nI s) (I 30 (6 * s + 0)) g0
    rw [ew] at q
    exact ik_cr_of (Nat.le_of_ble_eq_true rfl) (q hg)
  by_cases e : I 30 (6 * s + 0) = nI (2 ^ n - 1)
  · refine ⟨ij_u I 30 (6 * (s + 1) + 0) (nI (2 ^ n - 1)), start _ _ ?_, Or.inl ⟨ij_u_same _ _ _ _, ?_⟩, fun y hy => ij_u_other _ _ _ _ (by omega), fun q hq => ij_u_ne hq⟩
    · have q := xp_X1_link_15_1 (C := ik_cr xk_P xk_M xk_Y xk_K X (d + 2)) (v := none) (τ := (xk_R b, ij_u I 30 (6 * (s + 1) + 0) (nI (2 ^ n - 1)), J)) (b := b) (b' := b) (I' := ij_u I 30 (6 * (s + 1) + 0) (nI (2 ^ n - 1))) (J' := J) I J (nI s) (nI (2 ^ n - 1)) (I 30 (6 * s + 0)) e
      rw [nI_1] at q
      exact q (lx_setGroup (d := d + 1) (t := 0) (by omega) (by decide)) (xp_X1_link_28_0 _ J)
    · rcases hL with h | ⟨g, h1, h2⟩
      · exact fun u hu => cb_re_mono (Nat.le_succ s) (h.2 u hu)
      · have e0 : g 0 = 2 ^ n - 1 := by
          rw [h1 0 hn1] at e
          exact (nI_eq (by have := (h2.1 0 hn1).1; omega) (by omega)).mp e
        exact fun u hu => cb_re_mono (Nat.le_succ s) (h2.2.2.2 0 u hn1 hu ((cb_full (h2.1 0 hn1).1).mp e0 u hu))
  · obtain ⟨g, h1, h2⟩ : ∃ g, (∀ t, t < n → I 30 (6 * s + t) = nI (g t)) ∧ cb_Q n a s g := by
      rcases hL with h | h
      · exact absurd h.1 e
      · exact h
    obtain ⟨I1, k1, k2, k3, k4⟩ := lx_lk31 (X := X) (d := d) (b := b) (J := J) (s := s) hn hs n 0 I (Nat.zero_add n) h7
    obtain ⟨I', g', m1, m2, m3, m4, m5⟩ := lx_lk61 (X := X) (d := d) (b := b) (J := J) (a := a) (s := s) hn hs hal hok n 0 I1 g (Nat.zero_add n) (by rw [k4 28 (by decide)]; exact h7) (by unfold cb_xn; rw [k4 23 (by decide), k4 24 (by decide)]; exact hx) (by unfold cb_ch; rw [k4 29 (by decide)]; exact hc) (fun u hu => (k2 u (Nat.zero_le u) hu).trans (h1 u hu)) (cb_Q_P h2)
    exact ⟨I', start _ _ (xp_X1_link_15_0 I J _ _ _ e (k1 _ _ m1)), Or.inr ⟨g', m2, cb_P_Q m3⟩, fun y hy => (m4 y hy).trans (k3 y (by omega)), fun q hq => (m5 q hq).trans (k4 q hq)⟩
theorem cb_L_0 {I : Nat → Nat → Int32} (h : ∀ t, t < n → I 30 t = nI (2 ^ t)) : cb_L n [] 0 I := by
  refine Or.inr ⟨fun t => 2 ^ t, fun t ht => by rw [Nat.mul_zero, Nat.zero_add]; exact h t ht, fun t ht => ⟨Nat.pow_lt_pow_right (by decide) ht, ?_⟩, fun t u _ _ q => ?_, fun s t hs => absurd hs (Nat.not_lt_zero s), fun t u _ _ q => ?_⟩
  · exact Nat.testBit_two_pow_self
  · have : t = u := by
      rw [Nat.testBit_two_pow] at q
      exact of_decide_eq_true q
    rw [this]
  · have : t = u := by
      rw [Nat.testBit_two_pow] at q
      exact of_decide_eq_true q
    rw [this]
    exact cb_re_refl u
theorem lx_begin7 (hn : n < 7) : ∀ (r t : Nat) (I : Nat → Nat → Int32), t + r = n → I 28 7 = nI n → ∃ I' : Nat → Nat → Int32, xk_go (ik_cr xk_P xk_M xk_Y xk_K X (d + 1)) 9 (7, [some (.ref 28), none, some (.int (nI t))], [], (xk_R b, I, J)) none (xk_R b, I', J) ∧ (∀ u, t ≤ u → u < n → I' 30 u = nI (2 ^ u)) ∧ (∀ u, u < t → I' 30 u = I 30 u) ∧ ∀ q, q ≠ 30 → I' q = I q := by
  intro r
  induction r with
  | zero =>
    intro t I ht h7
    have : t = n := by omega
    subst this
    exact ⟨I, xp_X1_begin_7_0 I J _ (by rw [h7]; exact nI_le (Nat.le_refl t) (by omega)), fun u h1 h2 => by omega, fun _ _ => rfl, fun _ _ => rfl⟩
  | succ r ih =>
    intro t I ht h7
    obtain ⟨I', g1, g2, g3, g4⟩ := ih (t + 1) (ij_u I 30 t (nI (2 ^ t))) (by omega) h7
    refine ⟨I', ?_, fun u h1 h2 => ?_, fun u hu => ?_, fun q hq => (g4 q hq).trans (ij_u_ne hq)⟩
    · have sg := lx_setGroup (X := X) (d := d) (b := b) (J := J) (I := I) (k := 0) (t := t) (x := nI (2 ^ t)) (by decide) (by omega)
      rw [Nat.mul_zero, Nat.zero_add] at sg
      have q := xp_X1_begin_7_1 (C := ik_cr xk_P xk_M xk_Y xk_K X (d + 1)) (v := none) (τ := (xk_R b, I', J)) (b := b) (b' := b) (I' := ij_u I 30 t (nI (2 ^ t))) (J' := J) I J (nI t) (by rw [h7]; exact nI_ge (by omega) (by omega))
      rw [cb_shl6 ⟨t, by omega⟩] at q
      rw [← nI_1] at g1
      exact q sg (xp_X1_begin_24_0 _ J _ g1)
    · by_cases e : u = t
      · subst e
        rw [g3 u (by omega), ij_u_same]
      · exact g2 u (by omega) h2
    · rw [g3 u (by omega), ij_u_other _ _ _ _ (by omega)]
theorem lx_beginD (hn : n < 7) (I : Nat → Nat → Int32) : ∃ I' : Nat → Nat → Int32, lk_cx1 X (d + 2) 9 [.ref 28, .int (nI n)] (xk_R b, I, J) none (xk_R b, I', J) ∧ I' 28 7 = nI n ∧ cb_L n [] 0 I' ∧ ∀ q k, q ≠ 30 → ¬ (q = 28 ∧ k = 7) → I' q k = I q k := by
  obtain ⟨I', g1, g2, -, g4⟩ := lx_begin7 (X := X) (d := d) (b := b) (J := J) hn n 0 (ij_u I 28 7 (nI n)) (Nat.zero_add n) rfl
  exact ⟨I', ik_cr_of (Nat.le_of_ble_eq_true rfl) (xp_X1_begin_0_0 I J (nI n) g1), by rw [g4 28 (by decide)]; rfl, cb_L_0 (fun t ht => g2 t (Nat.zero_le t) ht), fun q k h1 h2 => by rw [g4 q h1]; exact lb_u_at h2⟩
end CH3
