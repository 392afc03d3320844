/-! ===== name: both spell alike ===== -/
/-- the rows a name is spelled by: p sides, T tiles -/
def lr_from (p T : Nat) (ring last across ring2 from2 by2 : Nat → Int32) : Prop :=
  p ≤ 8 ∧ T ≤ 2000 ∧ ∀ a, a < T → ∃ r, r < 64 ∧ ring a = nI r ∧ ring2 a = nI r ∧ (r = 0 ∨ ∃ s u, s < p ∧ u < T ∧ last a = nI s ∧ by2 a = nI s ∧ from2 a = nI u ∧ across (8 * a + s) = nI u ∧ ring u = nI (r - 1))
def lr_nm (p T : Nat) (I I2 : Nat → Nat → Int32) : Prop := I 6 8 = nI p ∧ I2 0 1 = nI p ∧ I 6 9 = nI T ∧ I2 0 21 = nI T ∧ lr_from p T (I 10) (I 11) (I 9) (I2 8) (I2 11) (I2 12)
theorem lx_beyond {X : ij_R} {d : Nat} {b : Bool} {I : Nat → Nat → Int32} {J : Nat → Nat → Int64} {p T a s : Nat} (hp : p ≤ 8) (hT : T ≤ 2000) (h8 : I 6 8 = nI p) (h9 : I 6 9 = nI T) (ha : a < T) (hs : s < p) : lk_cx1 X (d + 1) 33 [.ref 6, .int (nI a), .int (nI s)] (xk_R b, I, J) (some (.int (I 9 (8 * a + s)))) (xk_R b, I, J) := by
  refine ik_cr_of (Nat.le_of_ble_eq_true rfl) ?_
  have e := xp_X2_beyond_0_4 (C := ik_cr xk_P xk_M xk_Y xk_K X d) (b := b) I J (nI a) (nI s) (nI_pos (by omega)) (by rw [h9]; exact nI_ge ha (by omega)) (nI_pos (by omega)) (by rw [h8]; exact nI_lt hs (by omega)) (by decide) (by rw [lr_8]; exact nI_ge (a := 8 * a + s) (b := 16000) (by omega) (by decide)) (by rw [lr_8]; exact vp_in_nI (by omega) (by decide))
  rw [lr_8, nI_clamp (by omega)] at e
  exact e
theorem lx_ringOf {X : ij_R} {d : Nat} {b : Bool} {I : Nat → Nat → Int32} {J : Nat → Nat → Int64} {a : Nat} (ha : a < 2000) : lk_cx1 X (d + 1) 34 [.ref 6, .int (nI a)] (xk_R b, I, J) (some (.int (I 10 a))) (xk_R b, I, J) := by
  refine ik_cr_of (Nat.le_of_ble_eq_true rfl) ?_
  have e := xp_X2_ringOfTile_0_2 (C := ik_cr xk_P xk_M xk_Y xk_K X d) (b := b) I J (nI a) (nI_pos (by omega)) (by decide) (nI_ge (a := a) (b := 2000) ha (by decide)) (vp_in_nI ha (by decide))
  rw [nI_clamp (by omega)] at e
  exact e
def ls_fr (I I' : Nat → Nat → Int32) : Prop := ∀ p k, p ≠ 14 → I' p k = I p k
def ls_fr2 (I I' : Nat → Nat → Int32) : Prop := ∀ p k, p ≠ 23 → ¬ (p = 0 ∧ k = 0) → I' p k = I p k
theorem ls_u (I : Nat → Nat → Int32) (k : Nat) (v : Int32) : ls_fr I (ij_u I 14 k v) := fun _ _ h => if_neg h
theorem ls_u2 (I : Nat → Nat → Int32) (k : Nat) (v : Int32) : ls_fr2 I (ij_u I 23 k v) := fun _ _ h _ => if_neg h
theorem ls_u0 (I : Nat → Nat → Int32) (v : Int32) : ls_fr2 I (ij_u I 0 0 v) := by
  intro p k _ h3
  show (if p = 0 then (if k = 0 then v else I p k) else I p k) = I p k
  by_cases hp : p = 0
  · rw [if_pos hp, if_neg (fun q => h3 ⟨hp, q⟩)]
  · rw [if_neg hp]
theorem ls_fr_trans {I I' I'' : Nat → Nat → Int32} (h : ls_fr I I') (h' : ls_fr I' I'') : ls_fr I I'' := fun p k h1 => (h' p k h1).trans (h p k h1)
theorem ls_fr2_trans {I I' I'' : Nat → Nat → Int32} (h : ls_fr2 I I') (h' : ls_fr2 I' I'') : ls_fr2 I I'' := fun p k h1 h2 => (h' p k h1 h2).trans (h p k h1 h2)
/-- row holds the sides that lead to tile a of ring r -/
def lr_spl (p T : Nat) (last across row : Nat → Int32) : Nat → Nat → Prop
  | 0, _ => True
  | r + 1, a => ∃ s u, s < p ∧ u < T ∧ last a = nI s ∧ across (8 * a + s) = nI u ∧ row r = nI s ∧ lr_spl p T last across row r u
/-- the loops of spell and names, from tile a of ring r -/
theorem ls_loop {X : ij_R} {d d2 : Nat} {b : Bool} (J J2 : Nat → Nat → Int64) {p T t : Nat} (ht : t < T) (L : Int32) : ∀ (r a : Nat) (I I2 : Nat → Nat → Int32), lr_nm p T I I2 → a < T → I 10 a = nI r → r < 64 → ∃ I' I2', xk_go (ik_cr xk_P xk_M xk_Y xk_K X (d + 1)) 44 (21, [some (.ref 6), none, some (.int L), some (.int (nI a)), some (.int (nI r - 1)), none], [], (xk_R b, I, J)) (some (.int L)) (xk_R b, I', J) ∧ rk_go (rk_call d2) 36 (11, [some (.ref 0), some (.int (nI t)), some (.int (nI a)), some (.int (nI r - 1))], [], (rk_R, I2, J2)) (some (.int (I2 8 t))) (rk_R, I2', J2) ∧ ls_fr I I' ∧ ls_fr2 I2 I2' ∧ (∀ j, r ≤ j → I' 14 j = I 14 j) ∧ (∀ j, r ≤ j → I2' 23 j = I2 23 j) ∧ (∀ j, j < r → I' 14 j = I2' 23 j) ∧ I2' 0 0 = I2 0 0 ∧ lr_spl p T (I 11) (I 9) (I' 14) r a := by
  intro r
  induction r with
  | zero =>
    intro a I I2 hn ha hr _
    have e := rp_names_11_0 (C := rk_call d2) I2 J2 (nI t) (nI a) (nI 0 - 1) (by decide) (vp_in_nI (by have := hn.2.2.2.2.2.1; omega) (by decide))
    rw [nI_clamp (by have := hn.2.2.2.2.2.1; omega)] at e
    exact ⟨I, I2, xp_X2_spell_21_0 I J L (nI a) (nI 0 - 1) (by decide), e, fun _ _ _ => rfl, fun _ _ _ _ => rfl, fun _ _ => rfl, fun _ _ => rfl, fun j hj => absurd hj (Nat.not_lt_zero j), rfl, trivial⟩
  | succ r ih =>
    intro a I I2 hn ha hr h64
    have hn' := hn
    obtain ⟨n1, n2, n3, n4, hp, hT, hf⟩ := hn'
    obtain ⟨r', hr', f1, f2, f3⟩ := hf a ha
    have hrr : r' = r + 1 := by
      rw [hr] at f1
      exact ((nI_eq (by omega) (by omega)).mp f1).symm
    subst hrr
    obtain ⟨s, u, hs, hu, g1, g2, g3, g4, g5⟩ := f3.resolve_left (by omega)
    have e0 : nI (r + 1) - 1 = nI r := nI_pred r
    obtain ⟨I', I2', k1, k2, k3, k4, k5, k6, k7, k8, k9⟩ := ih u (ij_u I 14 r (nI s)) (ij_u I2 23 r (nI s)) hn hu g5 (by omega)
    rw [Int32.sub_eq_add_neg] at k1 k2
    rw [e0]
    refine ⟨I', I2', ?_, ?_, ls_fr_trans (ls_u I r _) k3, ls_fr2_trans (ls_u2 I2 r _) k4, ?_, ?_, ?_, k8, s, u, hs, hu, g1, g4, ?_, k9⟩
    · have hb := lx_beyond (X := X) (d := d) (b := b) (I := ij_u I 14 r (nI s)) (J := J) hp hT n1 n3 ha hs
      have e1 : (ij_u I 14 r (nI s)) 9 (8 * a + s) = nI u := g4
      rw [e1] at hb
      have q := xp_X2_spell_21_3 (C := ik_cr xk_P xk_M xk_Y xk_K X (d + 1)) (b := b) (b' := b) (I' := ij_u I 14 r (nI s)) (J' := J) (v := some (.int L)) (τ := (xk_R b, I', J)) I J L (nI a) (nI r) (nI u) (nI_pos (by omega)) (nI_pos (by omega)) (by decide) (nI_ge (a := a) (b := 2000) (by omega) (by decide)) (vp_in_nI (by omega) (by decide)) (vp_in_nI (by omega) (by decide))
      rw [nI_clamp (by omega), nI_clamp (by omega), g1] at q
      exact q hb (xp_X2_spell_67_0 _ J L (nI r) (nI u) k1)
    · have q := rp_names_11_1 (C := rk_call d2) (v := some (.int (I2 8 t))) (τ := (rk_R, I2', J2)) I2 J2 (nI t) (nI a) (nI r) (nI_pos (by omega)) (vp_in_nI (by omega) (by decide)) (vp_in_nI (by omega) (by decide)) (vp_in_nI (by omega) (by decide))
      rw [nI_clamp (by omega), nI_clamp (by omega), g2, g3] at q
      exact q k2
    · intro j hj
      rw [k5 j (by omega)]
      exact ij_u_other _ _ _ _ (by omega)
    · intro j hj
      rw [k6 j (by omega)]
      exact ij_u_other _ _ _ _ (by omega)
    · intro j hj
      by_cases hjr : j < r
      · exact k7 j hjr
      · have : j = r := by omega
        subst this
        rw [k5 j (Nat.le_refl j), k6 j (Nat.le_refl j), ij_u_same, ij_u_same]
    · rw [k5 r (Nat.le_refl r)]
      exact ij_u_same _ _ _ _
/-- a tie that doesn't look at what was spelled -/
def lk_spell (R : lk_Rl) : Prop := ∀ b I J I2 J2 I' I2', R b I J I2 J2 → ls_fr I I' → ls_fr2 I2 I2' → R b I' J I2' J2
/-- spell of the class and names of the reference -/
theorem ls_spell {X : ij_R} {d d2 : Nat} {b : Bool} (J J2 : Nat → Nat → Int64) {p T t r : Nat} {I I2 : Nat → Nat → Int32} (hn : lr_nm p T I I2) (ht : t < T) (hr : I 10 t = nI r) (h64 : r < 64) : ∃ I' I2', lk_cx1 X (d + 2) 44 [.ref 6, .int (nI t)] (xk_R b, I, J) (some (.int (nI r))) (xk_R b, I', J) ∧ rk_call (d2 + 1) 36 [.ref 0, .int (nI t)] (rk_R, I2, J2) (some (.int (nI r))) (rk_R, I2', J2) ∧ ls_fr I I' ∧ ls_fr2 I2 I2' ∧ (∀ j, j < r → I' 14 j = I2' 23 j) ∧ I2' 0 0 = I2 0 0 ∧ lr_spl p T (I 11) (I 9) (I' 14) r t := by
  obtain ⟨n1, n2, n3, n4, hp, hT, hf⟩ := hn
  obtain ⟨r', hr', f1, f2, f3⟩ := hf t ht
  have hrr : r' = r := by
    rw [hr] at f1
    exact ((nI_eq (by omega) (by omega)).mp f1).symm
  subst hrr
  obtain ⟨I', I2', k1, k2, k3, k4, -, -, k7, k8, k9⟩ := ls_loop (X := X) (d := d) (d2 := d2) (b := b) J J2 (p := p) ht (nI r') r' t I I2 ⟨n1, n2, n3, n4, hp, hT, hf⟩ ht hr h64
  refine ⟨I', I2', ?_, ?_, k3, k4, k7, k8, k9⟩
  · have h34 := lx_ringOf (X := X) (d := d) (b := b) (I := I) (J := J) (a := t) (by omega)
    rw [hr] at h34
    exact ik_cr_of (Nat.le_of_ble_eq_true rfl) (xp_X2_spell_0_0 I J (nI t) (nI r') h34 (xp_X2_spell_5_0 I J (nI t) (nI r') (nI r') (by decide) (ik_cr_of (Nat.le_of_ble_eq_true rfl) (xp_J9_min_7cf53_0_1 I J (nI r') 64 (nI_nlt (a := 64) (by omega) (by decide)))) (xp_X2_spell_13_0 I J (nI t) (nI r') k1)))
  · rw [f2] at k2
    have q := rp_names_0_0 (C := rk_call d2) (v := some (.int (nI r'))) (τ := (rk_R, I2', J2)) I2 J2 (nI t) (vp_in_nI (by omega) (by decide))
    rw [nI_clamp (by omega), f2] at q
    exact ij_cr_of (Nat.le_of_ble_eq_true rfl) (q k2)
