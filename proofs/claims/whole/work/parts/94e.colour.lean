/-! ===== lesser neighbours, colour ===== -/
section LT2
variable {X : ij_R} {d : Nat} {b : Bool} {I I2 : Nat → Nat → Int32} {J J2 : Nat → Nat → Int64} {p T t : Nat}
theorem lx_isLesser_y {u : Nat} (hu : u < 2000) (ht : t < 2000) : lk_cx1 X (d + 2) 37 [.ref 6, .int (nI u), .int (nI t)] (xk_R b, I, J) (some (.int (if I 10 u < I 10 t then 1 else 0))) (xk_R b, I, J) := by
  refine ik_cr_of (Nat.le_of_ble_eq_true rfl) (xp_X2_isLesser_0_1 I J (nI u) (nI t) _ (nI_ne_m1 (by omega)) (lx_ringOf hu) (xp_X2_isLesser_10_0 I J (nI t) _ _ (lx_ringOf ht) ?_))
  by_cases h : I 10 u < I 10 t
  · rw [if_pos h]
    exact xp_X2_isLesser_15_1 I J _ _ (Int32.not_le.mpr h)
  · rw [if_neg h]
    exact xp_X2_isLesser_15_0 I J _ _ (Int32.not_lt.mp h)
theorem lx_isLesser_n : lk_cx1 X (d + 1) 37 [.ref 6, .int (-1), .int (nI t)] (xk_R b, I, J) (some (.int 0)) (xk_R b, I, J) :=
  ik_cr_of (Nat.le_of_ble_eq_true rfl) (xp_X2_isLesser_0_0 I J (-1) (nI t) rfl)
theorem lx_ls (hp : p ≤ 8) (hT : T ≤ 2000) (h8 : I 6 8 = nI p) (h9 : I 6 9 = nI T) (ht : t < T) (ha : lr_acr p T (I 9)) : lk_cx1 X (d + 3) 38 [.ref 6, .int (nI t)] (xk_R b, I, J) (some (.int (nI (lc_c (lf_ls (I 9) (I 10) t) 0 p)))) (xk_R b, I, J) := by
  have loop : ∀ m s c, s + m = p → xk_go (ik_cr xk_P xk_M xk_Y xk_K X (d + 2)) 38 (4, [some (.ref 6), some (.int (nI t)), some (.int (nI c)), some (.int (nI s))], [], (xk_R b, I, J)) (some (.int (nI (c + lc_c (lf_ls (I 9) (I 10) t) s m)))) (xk_R b, I, J) := by
    intro m
    induction m with
    | zero =>
      intro s c hs
      exact xp_X2_lesserOf_4_0 I J (nI t) (nI c) (nI s) (by rw [h8]; exact nI_le (by omega) (by omega))
    | succ m ih =>
      intro s c hs
      refine xp_X2_lesserOf_4_1 I J (nI t) (nI c) (nI s) _ (by rw [h8]; exact nI_ge (by omega) (by omega)) (lx_beyond hp hT h8 h9 ht (by omega)) ?_
      show xk_go _ _ _ (some (.int (nI (c + ((if lf_ls (I 9) (I 10) t s then 1 else 0) + lc_c (lf_ls (I 9) (I 10) t) (s + 1) m))))) _
      have no : lf_ls (I 9) (I 10) t s = false → xk_go (ik_cr xk_P xk_M xk_Y xk_K X (d + 2)) 38 (23, [some (.ref 6), some (.int (nI t)), some (.int (nI c)), some (.int (nI s))], [.int 0], (xk_R b, I, J)) (some (.int (nI (c + ((if lf_ls (I 9) (I 10) t s then 1 else 0) + lc_c (lf_ls (I 9) (I 10) t) (s + 1) m))))) (xk_R b, I, J) := by
        intro hf
        have k := ih (s + 1) c (by omega)
        rw [← nI_1] at k
        rw [hf, if_neg (by decide), Nat.zero_add]
        exact xp_X2_lesserOf_23_0 I J (nI t) (nI c) (nI s) 0 rfl k
      rcases ha t s ht (by omega) with hq | ⟨u, hu, hq⟩
      · rw [hq]
        refine xp_X2_lesserOf_19_0 I J (nI t) (nI c) (nI s) (-1) 0 lx_isLesser_n (no ?_)
        unfold lf_ls
        rw [hq]
        rfl
      · rw [hq]
        have hl := lx_isLesser_y (X := X) (d := d) (b := b) (I := I) (J := J) (u := u) (t := t) (by omega) (by omega)
        have hb : (nI u == -1) = false := beq_false_of_ne (nI_ne_m1 (by omega))
        by_cases hlt : I 10 u < I 10 t
        · rw [if_pos hlt] at hl
          have hf : lf_ls (I 9) (I 10) t s = true := by
            unfold lf_ls
            rw [hq, hb, nI_clamp (by omega), decide_eq_true hlt]
            rfl
          have k := ih (s + 1) (c + 1) (by omega)
          rw [← nI_1, ← nI_1] at k
          rw [hf, if_pos rfl, ← Nat.add_assoc]
          exact xp_X2_lesserOf_19_0 I J (nI t) (nI c) (nI s) (nI u) 1 hl (xp_X2_lesserOf_23_1 I J (nI t) (nI c) (nI s) 1 (by decide) k)
        · rw [if_neg hlt] at hl
          refine xp_X2_lesserOf_19_0 I J (nI t) (nI c) (nI s) (nI u) 0 hl (no ?_)
          unfold lf_ls
          rw [hq, hb, nI_clamp (by omega), decide_eq_false hlt]
          rfl
  have k := loop p 0 0 (Nat.zero_add p)
  rw [Nat.zero_add] at k
  exact ik_cr_of (Nat.le_of_ble_eq_true rfl) (xp_X2_lesserOf_0_0 I J (nI t) k)
/-- the colour that is spelled so far -/
def lc_x (cls row : Nat → Int32) : Nat → Int32
  | 0 => 0
  | r + 1 => lc_x cls row r ^^^ (1 <<< (cls (row r).toNatClampNeg &&& 31))
/-- the reference's colours -/
def lr_col (p T : Nat) (ring last across cls col : Nat → Int32) : Prop := ∀ a, a < T → (ring a = 0 → col a = 0) ∧ ∀ s u, s < p → u < T → ¬ ring a = 0 → last a = nI s → across (8 * a + s) = nI u → ring u = ring a - 1 ∧ col a = col u ^^^ (1 <<< (cls s &&& 31))
theorem lc_x_col {ring last across cls col row : Nat → Int32} (hp : p ≤ 8) (h : lr_col p T ring last across cls col) : ∀ r a, r < 64 → a < T → ring a = nI r → lr_spl p T last across row r a → lc_x cls row r = col a := by
  intro r
  induction r with
  | zero =>
    intro a _ ha hr _
    exact ((h a ha).1 hr).symm
  | succ r ih =>
    intro a h64 ha hr hs
    obtain ⟨s, u, h1, h2, h3, h4, h5, h6⟩ := hs
    obtain ⟨g1, g2⟩ := (h a ha).2 s u h1 h2 (by rw [hr]; exact nI_ne0 (by omega) (by omega)) h3 h4
    rw [hr, nI_pred] at g1
    show lc_x cls row r ^^^ (1 <<< (cls (row r).toNatClampNeg &&& 31)) = col a
    rw [ih u (by omega) h2 g1 h6, h5, nI_clamp (by omega), g2]
theorem lr_spl_row {last across row : Nat → Int32} : ∀ r a, lr_spl p T last across row r a → ∀ k, k < r → ∃ s, s < p ∧ row k = nI s := by
  intro r
  induction r with
  | zero => exact fun a _ k hk => absurd hk (Nat.not_lt_zero k)
  | succ r ih =>
    intro a hs k hk
    obtain ⟨s, u, h1, h2, h3, h4, h5, h6⟩ := hs
    by_cases hkr : k < r
    · exact ih u h6 k hkr
    · have : k = r := by omega
      subst this
      exact ⟨s, h1, h5⟩
theorem lx_classOf {s : Nat} (hs : s < 8) : lk_cx1 X (d + 1) 32 [.ref 6, .int (nI s)] (xk_R b, I, J) (some (.int (I 8 s))) (xk_R b, I, J) := by
  have e := xp_X2_classOfSide_0_2 (C := ik_cr xk_P xk_M xk_Y xk_K X d) (b := b) I J (nI s) (nI_pos (by omega)) (by decide) (nI_ge (a := s) (b := 8) hs (by decide)) (vp_in_nI hs (by decide))
  rw [nI_clamp (by omega)] at e
  exact ik_cr_of (Nat.le_of_ble_eq_true rfl) e
theorem lx_spelledAt {k : Nat} (hk : k < 64) : lk_cx1 X (d + 1) 45 [.ref 6, .int (nI k)] (xk_R b, I, J) (some (.int (I 14 k))) (xk_R b, I, J) := by
  have e := xp_X2_spelledAt_0_2 (C := ik_cr xk_P xk_M xk_Y xk_K X d) (b := b) I J (nI k) (nI_pos (by omega)) (by decide) (nI_ge (a := k) (b := 64) hk (by decide)) (vp_in_nI hk (by decide))
  rw [nI_clamp (by omega)] at e
  exact ik_cr_of (Nat.le_of_ble_eq_true rfl) e
theorem lx_colour {I' : Nat → Nat → Int32} {r : Nat} (hp : p ≤ 8) (h64 : r < 64) (hsp : lk_cx1 X (d + 2) 44 [.ref 6, .int (nI t)] (xk_R b, I, J) (some (.int (nI r))) (xk_R b, I', J)) (hrow : ∀ k, k < r → ∃ s, s < p ∧ I' 14 k = nI s) : lk_cx1 X (d + 3) 40 [.ref 6, .int (nI t)] (xk_R b, I, J) (some (.int (lc_x (I' 8) (I' 14) r))) (xk_R b, I', J) := by
  have loop : ∀ m k, k + m = r → xk_go (ik_cr xk_P xk_M xk_Y xk_K X (d + 2)) 40 (11, [some (.ref 6), none, some (.int (lc_x (I' 8) (I' 14) k)), some (.int (nI r)), some (.int (nI k))], [], (xk_R b, I', J)) (some (.int (lc_x (I' 8) (I' 14) r))) (xk_R b, I', J) := by
    intro m
    induction m with
    | zero =>
      intro k hk
      have : k = r := by omega
      subst this
      exact xp_X2_colourOf_11_0 I' J _ (nI k) (nI k) (nI_le (Nat.le_refl k) (by omega))
    | succ m ih =>
      intro k hk
      obtain ⟨s, hs, hks⟩ := hrow k (by omega)
      have q := ih (k + 1) (by omega)
      rw [← nI_1] at q
      have e : lc_x (I' 8) (I' 14) (k + 1) = lc_x (I' 8) (I' 14) k ^^^ (1 <<< (I' 8 s &&& 31)) := by
        show lc_x (I' 8) (I' 14) k ^^^ (1 <<< (I' 8 (I' 14 k).toNatClampNeg &&& 31)) = _
        rw [hks, nI_clamp (by omega)]
      rw [e] at q
      have h45 := lx_spelledAt (X := X) (d := d + 1) (b := b) (I := I') (J := J) (k := k) (by omega)
      rw [hks] at h45
      exact xp_X2_colourOf_11_1 I' J _ (nI r) (nI k) (nI s) (nI_ge (by omega) (by omega)) h45 (xp_X2_colourOf_26_0 I' J (nI r) (nI k) _ 1 (nI s) _ (lx_classOf (by omega)) (xp_X2_colourOf_29_0 I' J (nI r) (nI k) _ 1 _ q))
  exact ik_cr_of (Nat.le_of_ble_eq_true rfl) (xp_X2_colourOf_0_0 I J (nI t) (nI r) hsp (xp_X2_colourOf_7_0 I' J 0 (nI r) (loop r 0 (Nat.zero_add r))))
end LT2
