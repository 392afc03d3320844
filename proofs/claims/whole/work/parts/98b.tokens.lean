/-! ===== board: tokens, both take them alike ===== -/
def lb_B (c : Int32) : Prop := c = 32 ∨ c = 10
def lb_L (c : Int32) : Prop := ¬ c < 97 ∧ ¬ 122 < c
def lb_D (c : Int32) : Prop := ¬ c < 48 ∧ ¬ 57 < c
theorem lb_rng {c : Int32} {lo hi : Nat} (hlo : lo < 1000) (hhi : hi < 1000) (h1 : ¬ c < nI lo) (h2 : ¬ nI hi < c) : ∃ m, lo ≤ m ∧ m ≤ hi ∧ c = nI m := by
  have h0 : ¬ c < 0 := fun q => h1 (by
    rw [Int32.lt_iff_toInt_lt] at q ⊢
    rw [nI_toInt (by omega)]
    have : (0 : Int32).toInt = 0 := by decide
    omega)
  obtain ⟨m, hm, rfl⟩ := nI_of h0
  refine ⟨m, Nat.not_lt.mp (fun q => h1 (nI_lt q (by omega))), Nat.not_lt.mp (fun q => h2 (nI_lt q (by omega))), rfl⟩
theorem lb_L_nat {c : Int32} (h : lb_L c) : ∃ m, 97 ≤ m ∧ m ≤ 122 ∧ c = nI m := lb_rng (lo := 97) (hi := 122) (by decide) (by decide) h.1 h.2
theorem lb_D_nat {c : Int32} (h : lb_D c) : ∃ m, 48 ≤ m ∧ m ≤ 57 ∧ c = nI m := lb_rng (lo := 48) (hi := 57) (by decide) (by decide) h.1 h.2
section LB0
variable {X : ij_R} {d : Nat} {b : Bool} {I : Nat → Nat → Int32} {J : Nat → Nat → Int64} {c : Int32}
theorem lx_isBlank_y (h : lb_B c) : lk_cx1 X (d + 1) 65 [.int c] (xk_R b, I, J) (some (.int 1)) (xk_R b, I, J) := by
  refine ik_cr_of (Nat.le_of_ble_eq_true rfl) ?_
  by_cases e : c = 32
  · exact xp_X3_isBlank_0_0 I J c e
  · exact xp_X3_isBlank_0_2 I J c e (h.resolve_left e)
theorem lx_isBlank_n (h : ¬ lb_B c) : lk_cx1 X (d + 1) 65 [.int c] (xk_R b, I, J) (some (.int 0)) (xk_R b, I, J) :=
  ik_cr_of (Nat.le_of_ble_eq_true rfl) (xp_X3_isBlank_0_1 I J c (fun q => h (Or.inl q)) (fun q => h (Or.inr q)))
theorem lx_isLetter_y (h : lb_L c) : lk_cx1 X (d + 1) 66 [.int c] (xk_R b, I, J) (some (.int 1)) (xk_R b, I, J) :=
  ik_cr_of (Nat.le_of_ble_eq_true rfl) (xp_X3_isLetter_0_2 I J c h.1 h.2)
theorem lx_isLetter_n (h : ¬ lb_L c) : lk_cx1 X (d + 1) 66 [.int c] (xk_R b, I, J) (some (.int 0)) (xk_R b, I, J) := by
  refine ik_cr_of (Nat.le_of_ble_eq_true rfl) ?_
  by_cases e : c < 97
  · exact xp_X3_isLetter_0_0 I J c e
  · exact xp_X3_isLetter_0_1 I J c e (Classical.byContradiction (fun q => h ⟨e, q⟩))
theorem lx_isDigit_y (h : lb_D c) : lk_cx1 X (d + 1) 67 [.int c] (xk_R b, I, J) (some (.int 1)) (xk_R b, I, J) :=
  ik_cr_of (Nat.le_of_ble_eq_true rfl) (xp_X3_isDigit_0_2 I J c h.1 h.2)
theorem lx_isDigit_n (h : ¬ lb_D c) : lk_cx1 X (d + 1) 67 [.int c] (xk_R b, I, J) (some (.int 0)) (xk_R b, I, J) := by
  refine ik_cr_of (Nat.le_of_ble_eq_true rfl) ?_
  by_cases e : c < 48
  · exact xp_X3_isDigit_0_0 I J c e
  · exact xp_X3_isDigit_0_1 I J c e (Classical.byContradiction (fun q => h ⟨e, q⟩))
theorem lx_byteAt {k : Nat} (hk : k < 200) : lk_cx1 X (d + 1) 102 [.ref 1, .int (nI k)] (xk_R b, I, J) (some (.int (I 2 k))) (xk_R b, I, J) := by
  have q := xp_X8_byteAt_0_2 (C := ik_cr xk_P xk_M xk_Y xk_K X d) (b := b) I J (nI k) (nI_pos (by omega)) (by decide) (nI_ge (b := 200) hk (by decide)) (vp_in_nI hk (by decide))
  rw [nI_clamp (by omega)] at q
  exact ik_cr_of (Nat.le_of_ble_eq_true rfl) q
theorem rs_isLetter_y (h : lb_L c) : rk_call (d + 1) 6 [.int c] (rk_R, I, J) (some (.int 1)) (rk_R, I, J) :=
  ij_cr_of (Nat.le_of_ble_eq_true rfl) (rp_isLetter_0_2 I J c h.1 h.2)
theorem rs_isLetter_n (h : ¬ lb_L c) : rk_call (d + 1) 6 [.int c] (rk_R, I, J) (some (.int 0)) (rk_R, I, J) := by
  refine ij_cr_of (Nat.le_of_ble_eq_true rfl) ?_
  by_cases e : c < 97
  · exact rp_isLetter_0_0 I J c e
  · exact rp_isLetter_0_1 I J c e (Classical.byContradiction (fun q => h ⟨e, q⟩))
theorem rs_isDigit_y (h : lb_D c) : rk_call (d + 1) 7 [.int c] (rk_R, I, J) (some (.int 1)) (rk_R, I, J) :=
  ij_cr_of (Nat.le_of_ble_eq_true rfl) (rp_isDigit_0_2 I J c h.1 h.2)
theorem rs_isDigit_n (h : ¬ lb_D c) : rk_call (d + 1) 7 [.int c] (rk_R, I, J) (some (.int 0)) (rk_R, I, J) := by
  refine ij_cr_of (Nat.le_of_ble_eq_true rfl) ?_
  by_cases e : c < 48
  · exact rp_isDigit_0_0 I J c e
  · exact rp_isDigit_0_1 I J c e (Classical.byContradiction (fun q => h ⟨e, q⟩))
theorem rs_byteAt {n k : Nat} (hn : n ≤ 200) (h10 : I 0 10 = nI n) (hk : k < n) : rk_call (d + 1) 5 [.ref 0, .int (nI k)] (rk_R, I, J) (some (.int (I 3 k))) (rk_R, I, J) := by
  have q := rp_byteAt_0_1 (C := rk_call d) I J (nI k) (by rw [h10]; exact nI_ge hk (by omega)) (vp_in_nI (by omega) (by decide))
  rw [nI_clamp (by omega)] at q
  exact ij_cr_of (Nat.le_of_ble_eq_true rfl) q
theorem rs_byteAt_e {n : Nat} (hn : n ≤ 200) (h10 : I 0 10 = nI n) : rk_call (d + 1) 5 [.ref 0, .int (nI n)] (rk_R, I, J) (some (.int 0)) (rk_R, I, J) :=
  ij_cr_of (Nat.le_of_ble_eq_true rfl) (rp_byteAt_0_0 I J (nI n) (by rw [h10]; exact nI_le (Nat.le_refl n) (by omega)))
end LB0
theorem lb_L0 : ¬ lb_L 0 := fun h => h.1 (by decide)
theorem lb_D0 : ¬ lb_D 0 := fun h => h.1 (by decide)
/-- the first eight of j letters from s on, packed -/
def lb_w (f : Nat → Nat) (s : Nat) : Nat → Nat
  | 0 => 0
  | j + 1 => if j < 8 then lb_w f s j * 32 + (f (s + j) - 96) else lb_w f s j
theorem lb_w_lt {f : Nat → Nat} {s : Nat} : ∀ j, (∀ i, i < j → f (s + i) ≤ 122) → lb_w f s j < 32 ^ (min j 8) := by
  intro j
  induction j with
  | zero => intro _; show 0 < 32 ^ 0; decide
  | succ j ih =>
    intro h
    have h1 := ih (fun i hi => h i (by omega))
    have h2 := h j (by omega)
    show (if j < 8 then _ else _) < _
    by_cases e : j < 8
    · rw [if_pos e, show min (j + 1) 8 = j + 1 by omega, Nat.pow_succ]
      rw [show min j 8 = j by omega] at h1
      have : lb_w f s j + 1 ≤ 32 ^ j := h1
      have h3 : (lb_w f s j + 1) * 32 ≤ 32 ^ j * 32 := Nat.mul_le_mul this (Nat.le_refl _)
      omega
    · rw [if_neg e, show min (j + 1) 8 = 8 by omega]
      rw [show min j 8 = 8 by omega] at h1
      exact h1
theorem lb_pack {w x : Nat} (hw : w < 2 ^ 59) (hx : x < 32) : (lN w <<< ((5 : Int32).toInt64 &&& 63)) ||| (nI x).toInt64 = lN (w * 32 + x) := by
  rw [show (5 : Int32) = nI 5 from rfl, wb_shl w (k := 5) (by decide), nI_l (by omega), wb_or (by omega) (by omega)]
  congr 1
  have := Nat.two_pow_add_eq_or_of_lt (i := 5) (b := x) (by omega) w
  rw [show w * 2 ^ 5 = 2 ^ 5 * w by omega, ← this]
def lb_fr (I I' : Nat → Nat → Int32) : Prop := ∀ p k, ¬ (p = 3 ∧ (k = 5 ∨ k = 7 ∨ k = 8 ∨ k = 9)) → I' p k = I p k
def lb_fr2 (I I' : Nat → Nat → Int32) : Prop := ∀ p k, ¬ (p = 0 ∧ (k = 11 ∨ k = 12 ∨ k = 13 ∨ k = 14 ∨ k = 15)) → I' p k = I p k
def lb_fJ (J J' : Nat → Nat → Int64) : Prop := ∀ p k, ¬ (p = 0 ∧ k = 16) → J' p k = J p k
theorem lb_fr_refl (I : Nat → Nat → Int32) : lb_fr I I := fun _ _ _ => rfl
theorem lb_fr2_refl (I : Nat → Nat → Int32) : lb_fr2 I I := fun _ _ _ => rfl
theorem lb_fJ_refl (J : Nat → Nat → Int64) : lb_fJ J J := fun _ _ _ => rfl
theorem lb_fr_trans {I I' I'' : Nat → Nat → Int32} (h : lb_fr I I') (h' : lb_fr I' I'') : lb_fr I I'' := fun p k a => (h' p k a).trans (h p k a)
theorem lb_fr2_trans {I I' I'' : Nat → Nat → Int32} (h : lb_fr2 I I') (h' : lb_fr2 I' I'') : lb_fr2 I I'' := fun p k a => (h' p k a).trans (h p k a)
theorem lb_fJ_trans {I I' I'' : Nat → Nat → Int64} (h : lb_fJ I I') (h' : lb_fJ I' I'') : lb_fJ I I'' := fun p k a => (h' p k a).trans (h p k a)
theorem lb_u_at {α : Type} {I : Nat → Nat → α} {p k p' k' : Nat} {v : α} (h : ¬ (p' = p ∧ k' = k)) : ij_u I p k v p' k' = I p' k' := by
  by_cases e : p' = p
  · subst e
    exact ij_u_other _ _ _ _ (fun e => h ⟨rfl, e⟩)
  · exact congrFun (ij_u_ne e) k'
theorem lb_fr_u {I I0 : Nat → Nat → Int32} {k : Nat} {v : Int32} (hk : k = 5 ∨ k = 7 ∨ k = 8 ∨ k = 9) (h : lb_fr I0 I) : lb_fr I0 (ij_u I 3 k v) := fun p' k' a => (lb_u_at (fun e => a ⟨e.1, by rw [e.2]; exact hk⟩)).trans (h p' k' a)
theorem lb_fr2_u {I I0 : Nat → Nat → Int32} {k : Nat} {v : Int32} (hk : k = 11 ∨ k = 12 ∨ k = 13 ∨ k = 14 ∨ k = 15) (h : lb_fr2 I0 I) : lb_fr2 I0 (ij_u I 0 k v) := fun p' k' a => (lb_u_at (fun e => a ⟨e.1, by rw [e.2]; exact hk⟩)).trans (h p' k' a)
theorem lb_fJ_u {I I0 : Nat → Nat → Int64} {v : Int64} (h : lb_fJ I0 I) : lb_fJ I0 (ij_u I 0 16 v) := fun p' k' a => (lb_u_at (fun e => a e)).trans (h p' k' a)
/-- the text: n bytes, the same to both -/
def lb_by (n : Nat) (I I2 : Nat → Nat → Int32) : Prop := n ≤ 200 ∧ I 3 6 = nI n ∧ I2 0 10 = nI n ∧ ∀ j, j < 200 → I 2 j = I2 3 j
theorem lb_by_fr {n : Nat} {I I2 I' I2' : Nat → Nat → Int32} (h : lb_fr I I') (h2 : lb_fr2 I2 I2') (hb : lb_by n I I2) : lb_by n I' I2' := by
  obtain ⟨b1, b2, b3, b4⟩ := hb
  exact ⟨b1, (h 3 6 (by omega)).trans b2, (h2 0 10 (by omega)).trans b3, fun j hj => (h 2 j (by omega)).trans ((b4 j hj).trans (h2 3 j (by omega)).symm)⟩
/-- a token: it begins at s, ends ahead of i, is of kind k -/
def lb_tk (n : Nat) (I I2 : Nat → Nat → Int32) (J2 : Nat → Nat → Int64) (s i k : Nat) : Prop :=
  (I 3 5 = nI s ∧ I 3 7 = nI i ∧ I 3 8 = nI k) ∧ (I2 0 13 = nI s ∧ I2 0 11 = nI i ∧ I2 0 12 = nI k ∧ I2 0 14 = nI (i - s)) ∧ (s ≤ i ∧ i ≤ n ∧ k ≤ 4) ∧ (k = 2 → ∃ v, v < 1000 ∧ I2 0 15 = nI v ∧ I 3 9 = if i - s ≤ 3 then nI v else 1000) ∧ (k = 1 → (∀ j, s ≤ j → j < i → lb_L (I 2 j)) ∧ J2 0 16 = lN (lb_w (fun j => (I 2 j).toNatClampNeg) s (i - s)))
section LB1
variable {X : ij_R} {d d2 n : Nat} {b : Bool} {J : Nat → Nat → Int64}
/-- the letters of a word, from i on -/
theorem lb_word {s : Nat} (hsn : s ≤ n) : ∀ (r i : Nat) (I I2 : Nat → Nat → Int32) (J2 : Nat → Nat → Int64), i + r = n → s ≤ i → lb_by n I I2 → I 3 5 = nI s → I2 0 13 = nI s → I 3 7 = nI i → I2 0 11 = nI i → I 3 8 = 1 → (∀ j, s ≤ j → j < i → lb_L (I 2 j)) → J2 0 16 = lN (lb_w (fun j => (I 2 j).toNatClampNeg) s (i - s)) → ∃ i' I' I2' J2', xk_go (ik_cr xk_P xk_M xk_Y xk_K X (d + 1)) 62 (5, [some (.ref 3)], [], (xk_R b, I, J)) none (xk_R b, I', J) ∧ rk_go (rk_call (d2 + 1)) 8 (103, [some (.ref 0), none], [], (rk_R, I2, J2)) none (rk_R, I2', J2') ∧ lb_tk n I' I2' J2' s i' 1 ∧ i ≤ i' ∧ lb_fr I I' ∧ lb_fr2 I2 I2' ∧ lb_fJ J2 J2' := by
  intro r
  induction r with
  | zero =>
    intro i I I2 J2 hi hs hb h5 h13 h7 h11 h8 hL hJ
    have : i = n := by omega
    subst this
    obtain ⟨b1, b2, b3, b4⟩ := hb
    refine ⟨i, I, ij_u (ij_u I2 0 12 1) 0 14 (nI (i - s)), J2, ?_, ?_, ?_, Nat.le_refl _, lb_fr_refl I, lb_fr2_u (by decide) (lb_fr2_u (by decide) (lb_fr2_refl I2)), lb_fJ_refl J2⟩
    · exact xp_X3_takeWord_5_0 I J (by rw [b2, h7]; exact nI_le (Nat.le_refl i) (by omega))
    · have q := rp_steps0_103_0 (C := rk_call (d2 + 1)) (v := none) (τ := (rk_R, ij_u (ij_u I2 0 12 1) 0 14 (nI (i - s)), J2)) I2 J2 0 (I' := I2) (J' := J2)
      rw [h11] at q
      have q2 := rp_steps0_114_0 (C := rk_call (d2 + 1)) I2 J2 0 rfl
      rw [h11, h13, pk_sub hs] at q2
      exact q (rs_byteAt_e b1 b3) (rp_steps0_111_0 I2 J2 0 0 (rs_isLetter_n lb_L0) q2)
    · exact ⟨⟨h5, h7, h8⟩, ⟨h13, h11, rfl, rfl⟩, ⟨hs, Nat.le_refl _, by decide⟩, fun h => absurd h (by decide), fun _ => ⟨hL, hJ⟩⟩
  | succ r ih =>
    intro i I I2 J2 hi hs hb h5 h13 h7 h11 h8 hL hJ
    have hb' := hb
    obtain ⟨b1, b2, b3, b4⟩ := hb'
    have hlt : ¬ I 3 6 ≤ I 3 7 := by rw [b2, h7]; exact nI_ge (by omega) (by omega)
    have ex := lx_byteAt (X := X) (d := d) (b := b) (I := I) (J := J) (k := i) (by omega)
    have er := rs_byteAt (d := d2) (J := J2) b1 b3 (k := i) (by omega)
    rw [← b4 i (by omega)] at er
    have q1 := fun τ => xp_X3_takeWord_5_1 (C := ik_cr xk_P xk_M xk_Y xk_K X (d + 1)) (v := none) (τ := τ) (b := b) I J (I 2 i) (b' := b) (I' := I) (J' := J) hlt
    have q3 := fun τ => rp_steps0_103_0 (C := rk_call (d2 + 1)) (v := none) (τ := τ) I2 J2 (I 2 i) (I' := I2) (J' := J2)
    rw [h7] at q1
    rw [h11] at q3
    by_cases hc : lb_L (I 2 i)
    · obtain ⟨m, m1, m2, m3⟩ := lb_L_nat hc
      have cm : (I 2 i).toNatClampNeg = m := by rw [m3]; exact nI_clamp (by omega)
      have hJ' : ∀ (K2 : Nat → Nat → Int32) (L2 : Nat → Nat → Int64), (i - s < 8 → L2 0 16 = lN (lb_w (fun j => (I 2 j).toNatClampNeg) s (i - s) * 32 + (m - 96))) → (¬ i - s < 8 → L2 0 16 = J2 0 16) → L2 0 16 = lN (lb_w (fun j => (I 2 j).toNatClampNeg) s (i + 1 - s)) := by
        intro K2 L2 a1 a2
        rw [show i + 1 - s = (i - s) + 1 by omega]
        show _ = lN (if i - s < 8 then _ else _)
        by_cases e : i - s < 8
        · rw [if_pos e, a1 e, show s + (i - s) = i by omega]; show lN _ = lN (_ * 32 + ((I 2 i).toNatClampNeg - 96)); rw [cm]
        · rw [if_neg e, a2 e, hJ]
      have hx1 : ∀ τ, xk_go (ik_cr xk_P xk_M xk_Y xk_K X (d + 1)) 62 (5, [some (.ref 3)], [], (xk_R b, ij_u I 3 7 (nI (i + 1)), J)) none τ → xk_go (ik_cr xk_P xk_M xk_Y xk_K X (d + 1)) 62 (5, [some (.ref 3)], [], (xk_R b, I, J)) none τ := fun τ hg => by
        have q2 := xp_X3_takeWord_30_1 (C := ik_cr xk_P xk_M xk_Y xk_K X (d + 1)) (v := none) (τ := τ) (b := b) I J 1 (by decide)
        rw [h7, nI_1] at q2
        exact q1 τ ex (xp_X3_takeWord_27_0 I J _ 1 (lx_isLetter_y hc) (q2 hg))
      by_cases e8 : i - s < 8
      · obtain ⟨i', I', I2', J2', g1, g2, g3, g4, g5, g6, g7⟩ := ih (i + 1) (ij_u I 3 7 (nI (i + 1))) (ij_u I2 0 11 (nI (i + 1))) (ij_u J2 0 16 (lN (lb_w (fun j => (I 2 j).toNatClampNeg) s (i - s) * 32 + (m - 96)))) (by omega) (by omega) hb h5 h13 rfl rfl h8 (fun j j1 j2 => by
          by_cases e : j = i
          · subst e; exact hc
          · exact hL j j1 (by omega)) (hJ' I2 _ (fun _ => rfl) (fun z => absurd e8 z))
        refine ⟨i', I', I2', J2', hx1 _ g1, ?_, g3, by omega, lb_fr_trans (lb_fr_u (by decide) (lb_fr_refl I)) g5, lb_fr2_trans (lb_fr2_u (by decide) (lb_fr2_refl I2)) g6, lb_fJ_trans (lb_fJ_u (lb_fJ_refl J2)) g7⟩
        have hwl := lb_w_lt (f := fun j => (I 2 j).toNatClampNeg) (s := s) (i - s) (fun j hj => by
          obtain ⟨m', a1, a2, a3⟩ := lb_L_nat (hL (s + j) (by omega) (by omega))
          show (I 2 (s + j)).toNatClampNeg ≤ 122
          rw [a3, nI_clamp (by omega)]
          exact a2)
        have hw2 : lb_w (fun j => (I 2 j).toNatClampNeg) s (i - s) < 2 ^ 59 := Nat.lt_of_lt_of_le hwl (Nat.le_trans (Nat.pow_le_pow_right (by decide) (show min (i - s) 8 ≤ 8 by omega)) (by decide))
        have q4 := rp_steps0_114_2 (C := rk_call (d2 + 1)) (v := none) (τ := (rk_R, I2', J2')) I2 J2 1 (by decide)
        have q5 := rp_steps0_146_0 (C := rk_call (d2 + 1)) (v := none) (τ := (rk_R, I2', J2')) I2 J2 (I 2 i) (lN (lb_w (fun j => (I 2 j).toNatClampNeg) s (i - s)) <<< ((5 : Int32).toInt64 &&& 63))
        rw [h11, h13, pk_sub hs, hJ] at q4
        rw [h11, nI_1, m3, show nI m - 96 = nI (m - 96) from pk_sub (b := 96) (by omega), lb_pack hw2 (by omega)] at q5
        rw [m3] at q3 er
        exact q3 _ er (rp_steps0_111_0 I2 J2 (nI m) 1 (rs_isLetter_y (by rw [← m3]; exact hc)) (q4 (nI_ge (b := 8) e8 (by decide)) (nI m) er (q5 g2)))
      · obtain ⟨i', I', I2', J2', g1, g2, g3, g4, g5, g6, g7⟩ := ih (i + 1) (ij_u I 3 7 (nI (i + 1))) (ij_u I2 0 11 (nI (i + 1))) J2 (by omega) (by omega) hb h5 h13 rfl rfl h8 (fun j j1 j2 => by
          by_cases e : j = i
          · subst e; exact hc
          · exact hL j j1 (by omega)) (hJ' I2 _ (fun z => absurd z e8) (fun _ => rfl))
        refine ⟨i', I', I2', J2', hx1 _ g1, ?_, g3, by omega, lb_fr_trans (lb_fr_u (by decide) (lb_fr_refl I)) g5, lb_fr2_trans (lb_fr2_u (by decide) (lb_fr2_refl I2)) g6, g7⟩
        have q4 := rp_steps0_114_1 (C := rk_call (d2 + 1)) (v := none) (τ := (rk_R, I2', J2')) I2 J2 1 (by decide)
        rw [h11, h13, pk_sub hs, nI_1] at q4
        exact q3 _ er (rp_steps0_111_0 I2 J2 (I 2 i) 1 (rs_isLetter_y hc) (q4 (nI_le (a := 8) (by omega) (by omega)) g2))
    · refine ⟨i, I, ij_u (ij_u I2 0 12 1) 0 14 (nI (i - s)), J2, ?_, ?_, ?_, Nat.le_refl _, lb_fr_refl I, lb_fr2_u (by decide) (lb_fr2_u (by decide) (lb_fr2_refl I2)), lb_fJ_refl J2⟩
      · exact q1 _ ex (xp_X3_takeWord_27_0 I J _ 0 (lx_isLetter_n hc) (xp_X3_takeWord_30_0 I J 0 rfl))
      · have q2 := rp_steps0_114_0 (C := rk_call (d2 + 1)) I2 J2 0 rfl
        rw [h11, h13, pk_sub hs] at q2
        exact q3 _ er (rp_steps0_111_0 I2 J2 (I 2 i) 0 (rs_isLetter_n hc) q2)
      · exact ⟨⟨h5, h7, h8⟩, ⟨h13, h11, rfl, rfl⟩, ⟨hs, by omega, by decide⟩, fun h => absurd h (by decide), fun _ => ⟨hL, hJ⟩⟩
/-- the digits of a number, from i on -/
theorem lb_num {s : Nat} (hsn : s ≤ n) : ∀ (r i v : Nat) (I I2 : Nat → Nat → Int32) (J2 : Nat → Nat → Int64), i + r = n → s ≤ i → lb_by n I I2 → I 3 5 = nI s → I2 0 13 = nI s → I 3 7 = nI i → I2 0 11 = nI i → I 3 8 = 2 → v < 10 ^ (min (i - s) 3) → I2 0 15 = nI v → I 3 9 = (if i - s ≤ 3 then nI v else 1000) → ∃ i' I' I2', xk_go (ik_cr xk_P xk_M xk_Y xk_K X (d + 1)) 63 (10, [some (.ref 3)], [], (xk_R b, I, J)) none (xk_R b, I', J) ∧ rk_go (rk_call (d2 + 1)) 8 (182, [some (.ref 0), none], [], (rk_R, I2, J2)) none (rk_R, I2', J2) ∧ lb_tk n I' I2' J2 s i' 2 ∧ i ≤ i' ∧ lb_fr I I' ∧ lb_fr2 I2 I2' := by
  intro r
  induction r with
  | zero =>
    intro i v I I2 J2 hi hs hb h5 h13 h7 h11 h8 hv hv2 hv9
    have : i = n := by omega
    subst this
    obtain ⟨b1, b2, b3, b4⟩ := hb
    have hv' : v < 1000 := Nat.lt_of_lt_of_le hv (Nat.le_trans (Nat.pow_le_pow_right (by decide) (show min (i - s) 3 ≤ 3 by omega)) (by decide))
    refine ⟨i, I, ij_u (ij_u I2 0 12 2) 0 14 (nI (i - s)), ?_, ?_, ?_, Nat.le_refl _, lb_fr_refl I, lb_fr2_u (by decide) (lb_fr2_u (by decide) (lb_fr2_refl I2))⟩
    · exact xp_X3_takeNumber_10_0 I J (by rw [b2, h7]; exact nI_le (Nat.le_refl i) (by omega))
    · have q := rp_steps0_182_0 (C := rk_call (d2 + 1)) (v := none) (τ := (rk_R, ij_u (ij_u I2 0 12 2) 0 14 (nI (i - s)), J2)) I2 J2 0 (I' := I2) (J' := J2)
      rw [h11] at q
      have q2 := rp_steps0_193_0 (C := rk_call (d2 + 1)) I2 J2 0 rfl
      rw [h11, h13, pk_sub hs] at q2
      exact q (rs_byteAt_e b1 b3) (rp_steps0_190_0 I2 J2 0 0 (rs_isDigit_n lb_D0) q2)
    · exact ⟨⟨h5, h7, h8⟩, ⟨h13, h11, rfl, rfl⟩, ⟨hs, Nat.le_refl _, by decide⟩, fun _ => ⟨v, hv', hv2, hv9⟩, fun h => absurd h (by decide)⟩
  | succ r ih =>
    intro i v I I2 J2 hi hs hb h5 h13 h7 h11 h8 hv hv2 hv9
    have hb' := hb
    obtain ⟨b1, b2, b3, b4⟩ := hb'
    have hv' : v < 1000 := Nat.lt_of_lt_of_le hv (Nat.le_trans (Nat.pow_le_pow_right (by decide) (show min (i - s) 3 ≤ 3 by omega)) (by decide))
    have hlt : ¬ I 3 6 ≤ I 3 7 := by rw [b2, h7]; exact nI_ge (by omega) (by omega)
    have ex := lx_byteAt (X := X) (d := d) (b := b) (I := I) (J := J) (k := i) (by omega)
    have er := rs_byteAt (d := d2) (J := J2) b1 b3 (k := i) (by omega)
    rw [← b4 i (by omega)] at er
    have q1 := fun τ => xp_X3_takeNumber_10_1 (C := ik_cr xk_P xk_M xk_Y xk_K X (d + 1)) (v := none) (τ := τ) (b := b) I J (I 2 i) (b' := b) (I' := I) (J' := J) hlt
    have q3 := fun τ => rp_steps0_182_0 (C := rk_call (d2 + 1)) (v := none) (τ := τ) I2 J2 (I 2 i) (I' := I2) (J' := J2)
    rw [h7] at q1
    rw [h11] at q3
    by_cases hc : lb_D (I 2 i)
    · obtain ⟨m, m1, m2, m3⟩ := lb_D_nat hc
      rw [m3] at q1 q3 ex er hc
      by_cases e3 : i - s < 3
      · obtain ⟨i', I', I2', g1, g2, g3, g4, g5, g6⟩ := ih (i + 1) (10 * v + m - 48) (ij_u (ij_u I 3 9 (nI (10 * v + m - 48))) 3 7 (nI (i + 1))) (ij_u (ij_u I2 0 15 (nI (10 * v + m - 48))) 0 11 (nI (i + 1))) J2 (by omega) (by omega) hb h5 h13 rfl rfl h8 (by
          rw [show min (i + 1 - s) 3 = (i - s) + 1 by omega, Nat.pow_succ]
          rw [show min (i - s) 3 = i - s by omega] at hv
          omega) rfl (by rw [if_pos (by omega)]; rfl)
        refine ⟨i', I', I2', ?_, ?_, g3, by omega, lb_fr_trans (lb_fr_u (by decide) (lb_fr_u (by decide) (lb_fr_refl I))) g5, lb_fr2_trans (lb_fr2_u (by decide) (lb_fr2_u (by decide) (lb_fr2_refl I2))) g6⟩
        · have q2 := xp_X3_takeNumber_35_2 (C := ik_cr xk_P xk_M xk_Y xk_K X (d + 1)) (v := none) (τ := (xk_R b, I', J)) (b := b) I J 1 (nI m) (b' := b) (I' := I) (J' := J) (by decide)
          have q4 := xp_X3_takeNumber_70_0 (C := ik_cr xk_P xk_M xk_Y xk_K X (d + 1)) (v := none) (τ := (xk_R b, I', J)) (b := b) I J (nI (v * 10)) (nI m)
          rw [h7, h5, pk_sub hs, hv9, if_pos (by omega), show nI v * 10 = nI (v * 10) from pk_mul v 10] at q2
          rw [h7, nI_1, nI_add, show nI (v * 10 + m) - 48 = nI (v * 10 + m - 48) from pk_sub (b := 48) (by omega), show v * 10 + m - 48 = 10 * v + m - 48 by omega] at q4
          exact q1 _ ex (xp_X3_takeNumber_32_0 I J _ 1 (lx_isDigit_y hc) (q2 (nI_ge (b := 3) e3 (by decide)) ex (q4 g1)))
        · have q2 := rp_steps0_193_2 (C := rk_call (d2 + 1)) (v := none) (τ := (rk_R, I2', J2)) I2 J2 1 (by decide)
          have q4 := rp_steps0_225_0 (C := rk_call (d2 + 1)) (v := none) (τ := (rk_R, I2', J2)) I2 J2 (nI (10 * v)) (nI m)
          rw [h11, h13, pk_sub hs, hv2, show 10 * nI v = nI (10 * v) from pk_mul 10 v] at q2
          rw [h11, nI_1, nI_add, show nI (10 * v + m) - 48 = nI (10 * v + m - 48) from pk_sub (b := 48) (by omega)] at q4
          exact q3 _ er (rp_steps0_190_0 I2 J2 (nI m) 1 (rs_isDigit_y hc) (q2 (nI_ge (b := 3) e3 (by decide)) (nI m) er (q4 g2)))
      · obtain ⟨i', I', I2', g1, g2, g3, g4, g5, g6⟩ := ih (i + 1) v (ij_u (ij_u I 3 9 1000) 3 7 (nI (i + 1))) (ij_u I2 0 11 (nI (i + 1))) J2 (by omega) (by omega) hb h5 h13 rfl rfl h8 (by
          rw [show min (i + 1 - s) 3 = 3 by omega]
          exact hv') hv2 (by rw [if_neg (by omega)]; rfl)
        refine ⟨i', I', I2', ?_, ?_, g3, by omega, lb_fr_trans (lb_fr_u (by decide) (lb_fr_u (by decide) (lb_fr_refl I))) g5, lb_fr2_trans (lb_fr2_u (by decide) (lb_fr2_refl I2)) g6⟩
        · have q2 := xp_X3_takeNumber_35_1 (C := ik_cr xk_P xk_M xk_Y xk_K X (d + 1)) (v := none) (τ := (xk_R b, I', J)) (b := b) I J 1 (by decide)
          rw [h7, h5, pk_sub hs, nI_1] at q2
          exact q1 _ ex (xp_X3_takeNumber_32_0 I J _ 1 (lx_isDigit_y hc) (q2 (nI_le (a := 3) (by omega) (by omega)) g1))
        · have q2 := rp_steps0_193_1 (C := rk_call (d2 + 1)) (v := none) (τ := (rk_R, I2', J2)) I2 J2 1 (by decide)
          rw [h11, h13, pk_sub hs, nI_1] at q2
          exact q3 _ er (rp_steps0_190_0 I2 J2 (nI m) 1 (rs_isDigit_y hc) (q2 (nI_le (a := 3) (by omega) (by omega)) g2))
    · refine ⟨i, I, ij_u (ij_u I2 0 12 2) 0 14 (nI (i - s)), ?_, ?_, ?_, Nat.le_refl _, lb_fr_refl I, lb_fr2_u (by decide) (lb_fr2_u (by decide) (lb_fr2_refl I2))⟩
      · exact q1 _ ex (xp_X3_takeNumber_32_0 I J _ 0 (lx_isDigit_n hc) (xp_X3_takeNumber_35_0 I J 0 rfl))
      · have q2 := rp_steps0_193_0 (C := rk_call (d2 + 1)) I2 J2 0 rfl
        rw [h11, h13, pk_sub hs] at q2
        exact q3 _ er (rp_steps0_190_0 I2 J2 (I 2 i) 0 (rs_isDigit_n hc) q2)
      · exact ⟨⟨h5, h7, h8⟩, ⟨h13, h11, rfl, rfl⟩, ⟨hs, by omega, by decide⟩, fun _ => ⟨v, hv', hv2, hv9⟩, fun h => absurd h (by decide)⟩
end LB1
