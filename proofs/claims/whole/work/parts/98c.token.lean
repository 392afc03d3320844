/-! ===== board: the next token ===== -/
section LB2
variable {X : ij_R} {d d2 n : Nat} {b : Bool} {J : Nat → Nat → Int64}
theorem lb_w0 (f : Nat → Nat) (s : Nat) : lb_w f s (s - s) = 0 := by rw [Nat.sub_self]; rfl
/-- one that begins here -/
theorem lb_tok_at {i : Nat} (hi : i < n) (I I2 : Nat → Nat → Int32) (J2 : Nat → Nat → Int64) (hb : lb_by n I I2) (h7 : I 3 7 = nI i) (h11 : I2 0 11 = nI i) (hB : ¬ lb_B (I 2 i)) : ∃ i' k I' I2' J2', xk_go (ik_cr xk_P xk_M xk_Y xk_K X (d + 2)) 61 (0, [some (.ref 3)], [], (xk_R b, I, J)) none (xk_R b, I', J) ∧ rk_go (rk_call (d2 + 1)) 8 (0, [some (.ref 0), none], [], (rk_R, I2, J2)) none (rk_R, I2', J2') ∧ lb_tk n I' I2' J2' i i' k ∧ lb_fr I I' ∧ lb_fr2 I2 I2' ∧ lb_fJ J2 J2' := by
  have hb' := hb
  obtain ⟨b1, b2, b3, b4⟩ := hb'
  have hlt : ¬ I 3 6 ≤ I 3 7 := by rw [b2, h7]; exact nI_ge hi (by omega)
  have hlt2 : I 3 7 < I 3 6 := by rw [b2, h7]; exact nI_lt hi (by omega)
  have ex := lx_byteAt (X := X) (d := d + 1) (b := b) (I := I) (J := J) (k := i) (by omega)
  have ex5 := lx_byteAt (X := X) (d := d + 1) (b := b) (I := ij_u I 3 5 (nI i)) (J := J) (k := i) (by omega)
  have er := rs_byteAt (d := d2) (J := J2) b1 b3 (k := i) hi
  have er5 := rs_byteAt (d := d2) (I := ij_u (ij_u I2 0 13 (nI i)) 0 15 0) (J := ij_u J2 0 16 0) b1 b3 (k := i) hi
  rw [← b4 i (by omega)] at er
  rw [show (ij_u (ij_u I2 0 13 (nI i)) 0 15 0) 3 i = I 2 i from (b4 i (by omega)).symm] at er5
  -- up to the kind
  have hx : ∀ τ, xk_go (ik_cr xk_P xk_M xk_Y xk_K X (d + 2)) 61 (79, [some (.ref 3)], [.int (I 2 i)], (xk_R b, ij_u I 3 5 (nI i), J)) none τ → xk_go (ik_cr xk_P xk_M xk_Y xk_K X (d + 2)) 61 (0, [some (.ref 3)], [], (xk_R b, I, J)) none τ := fun τ hg => by
    have q1 := xp_X3_takeToken_0_2 (C := ik_cr xk_P xk_M xk_Y xk_K X (d + 2)) (v := none) (τ := τ) (b := b) I J (I 2 i) (b' := b) (I' := I) (J' := J) hlt
    have q2 := xp_X3_takeToken_25_0 (C := ik_cr xk_P xk_M xk_Y xk_K X (d + 2)) (v := none) (τ := τ) (b := b) I J 0 (I 2 i) (b' := b) (I' := ij_u I 3 5 (nI i)) (J' := J) rfl hlt2
    rw [h7] at q1 q2
    exact q1 ex (xp_X3_takeToken_22_0 I J _ 0 (lx_isBlank_n hB) (q2 ex5 hg))
  have hr : ∀ τ, rk_go (rk_call (d2 + 1)) 8 (76, [some (.ref 0), none], [.int (I 2 i)], (rk_R, ij_u (ij_u I2 0 13 (nI i)) 0 15 0, ij_u J2 0 16 0)) none τ → rk_go (rk_call (d2 + 1)) 8 (0, [some (.ref 0), none], [], (rk_R, I2, J2)) none τ := fun τ hg => by
    have q1 := rp_steps0_0_1 (C := rk_call (d2 + 1)) (v := none) (τ := τ) I2 J2 (by rw [b3, h11]; exact nI_ge hi (by omega)) (I 2 i) (I' := I2) (J' := J2)
    have q2 := rp_steps0_19_1 (C := rk_call (d2 + 1)) (v := none) (τ := τ) I2 J2 (I 2 i) (fun e => hB (Or.inl e)) (I 2 i) (I' := I2) (J' := J2)
    have q3 := rp_steps0_32_0 (C := rk_call (d2 + 1)) (v := none) (τ := τ) I2 J2 (I 2 i) (fun e => hB (Or.inr e)) (I 2 i) (I' := ij_u (ij_u I2 0 13 (nI i)) 0 15 0) (J' := ij_u J2 0 16 0)
    rw [h11] at q1 q2 q3
    exact q1 er (q2 er (q3 er5 hg))
  have hn76 : ij_u (ij_u I2 0 13 (nI i)) 0 15 0 0 11 < ij_u (ij_u I2 0 13 (nI i)) 0 15 0 0 10 := by
    show I2 0 11 < I2 0 10
    rw [b3, h11]
    exact nI_lt hi (by omega)
  by_cases hL : lb_L (I 2 i)
  · obtain ⟨i', I', I2', J2', g1, g2, g3, g4, g5, g6, g7⟩ := lb_word (X := X) (d := d) (d2 := d2) (b := b) (J := J) (s := i) (n := n) (by omega) (n - i) i (ij_u (ij_u I 3 5 (nI i)) 3 8 1) (ij_u (ij_u I2 0 13 (nI i)) 0 15 0) (ij_u J2 0 16 0) (by omega) (Nat.le_refl i) hb rfl rfl h7 h11 rfl (fun j j1 j2 => by omega) (by rw [lb_w0]; rfl)
    refine ⟨i', 1, I', I2', J2', hx _ ?_, hr _ ?_, g3, lb_fr_trans (lb_fr_u (by decide) (lb_fr_u (by decide) (lb_fr_refl I))) g5, lb_fr2_trans (lb_fr2_u (by decide) (lb_fr2_u (by decide) (lb_fr2_refl I2))) g6, lb_fJ_trans (lb_fJ_u (lb_fJ_refl J2)) g7⟩
    · exact xp_X3_takeToken_79_0 _ J _ 1 (lx_isLetter_y hL) (xp_X3_takeToken_82_1 _ J 1 (by decide) (ik_cr_of (Nat.le_of_ble_eq_true rfl) (xp_X3_takeWord_0_0 _ J g1)) (xp_X3_takeToken_89_0 I' J))
    · exact rp_steps0_76_0 _ _ _ hn76 1 (rs_isLetter_y hL) (rp_steps0_100_1 _ _ _ 1 (by decide) g2)
  · by_cases hD : lb_D (I 2 i)
    · obtain ⟨i', I', I2', g1, g2, g3, g4, g5, g6⟩ := lb_num (X := X) (d := d) (d2 := d2) (b := b) (J := J) (s := i) (n := n) (by omega) (n - i) i 0 (ij_u (ij_u (ij_u I 3 5 (nI i)) 3 8 2) 3 9 0) (ij_u (ij_u I2 0 13 (nI i)) 0 15 0) (ij_u J2 0 16 0) (by omega) (Nat.le_refl i) hb rfl rfl h7 h11 rfl (by rw [Nat.sub_self]; decide) rfl (by rw [if_pos (by omega)]; rfl)
      refine ⟨i', 2, I', I2', ij_u J2 0 16 0, hx _ ?_, hr _ ?_, g3, lb_fr_trans (lb_fr_u (by decide) (lb_fr_u (by decide) (lb_fr_u (by decide) (lb_fr_refl I)))) g5, lb_fr2_trans (lb_fr2_u (by decide) (lb_fr2_u (by decide) (lb_fr2_refl I2))) g6, lb_fJ_u (lb_fJ_refl J2)⟩
      · have q := xp_X3_takeToken_82_0 (C := ik_cr xk_P xk_M xk_Y xk_K X (d + 2)) (v := none) (τ := (xk_R b, I', J)) (b := b) (ij_u I 3 5 (nI i)) J 0 (I 2 i) (b' := b) (I' := ij_u I 3 5 (nI i)) (J' := J) rfl
        rw [show (ij_u I 3 5 (nI i)) 3 7 = nI i from h7] at q
        exact xp_X3_takeToken_79_0 _ J _ 0 (lx_isLetter_n hL) (q ex5 (xp_X3_takeToken_103_0 _ J _ 1 (lx_isDigit_y hD) (xp_X3_takeToken_106_1 _ J 1 (by decide) (ik_cr_of (Nat.le_of_ble_eq_true rfl) (xp_X3_takeNumber_0_0 _ J g1)) (xp_X3_takeToken_113_0 I' J))))
      · exact rp_steps0_76_0 _ _ _ hn76 0 (rs_isLetter_n hL) (rp_steps0_100_0 _ _ _ 0 rfl 1 (rs_isDigit_y hD) (rp_steps0_179_2 _ _ _ 1 (by decide) g2))
    · -- a sign, or none
      have hfin : ∀ k : Nat, k = 3 ∨ k = 4 → (k = 3 ↔ I 2 i = 59) → ∃ i' k I' I2' J2', xk_go (ik_cr xk_P xk_M xk_Y xk_K X (d + 2)) 61 (0, [some (.ref 3)], [], (xk_R b, I, J)) none (xk_R b, I', J) ∧ rk_go (rk_call (d2 + 1)) 8 (0, [some (.ref 0), none], [], (rk_R, I2, J2)) none (rk_R, I2', J2') ∧ lb_tk n I' I2' J2' i i' k ∧ lb_fr I I' ∧ lb_fr2 I2 I2' ∧ lb_fJ J2 J2' := by
        intro k hk hks
        refine ⟨i + 1, k, ij_u (ij_u (ij_u I 3 5 (nI i)) 3 8 (nI k)) 3 7 (nI (i + 1)), ij_u (ij_u (ij_u (ij_u (ij_u I2 0 13 (nI i)) 0 15 0) 0 11 (nI (i + 1))) 0 12 (nI k)) 0 14 (nI (i + 1 - i)), ij_u J2 0 16 0, hx _ ?_, hr _ ?_, ?_, lb_fr_u (by decide) (lb_fr_u (by decide) (lb_fr_u (by decide) (lb_fr_refl I))), lb_fr2_u (by decide) (lb_fr2_u (by decide) (lb_fr2_u (by decide) (lb_fr2_u (by decide) (lb_fr2_u (by decide) (lb_fr2_refl I2))))), lb_fJ_u (lb_fJ_refl J2)⟩
        · have q := fun τ => xp_X3_takeToken_82_0 (C := ik_cr xk_P xk_M xk_Y xk_K X (d + 2)) (v := none) (τ := τ) (b := b) (ij_u I 3 5 (nI i)) J 0 (I 2 i) (b' := b) (I' := ij_u I 3 5 (nI i)) (J' := J) rfl
          have q2 := fun τ => xp_X3_takeToken_106_0 (C := ik_cr xk_P xk_M xk_Y xk_K X (d + 2)) (v := none) (τ := τ) (b := b) (ij_u I 3 5 (nI i)) J 0 (I 2 i) (b' := b) (I' := ij_u I 3 5 (nI i)) (J' := J) rfl
          rw [show (ij_u I 3 5 (nI i)) 3 7 = nI i from h7] at q q2
          refine xp_X3_takeToken_79_0 _ J _ 0 (lx_isLetter_n hL) (q _ ex5 (xp_X3_takeToken_103_0 _ J _ 0 (lx_isDigit_n hD) (q2 _ ex5 ?_)))
          rcases hk with rfl | rfl
          · have q3 := xp_X3_takeToken_128_1 (C := ik_cr xk_P xk_M xk_Y xk_K X (d + 2)) (b := b) (ij_u I 3 5 (nI i)) J (I 2 i) (hks.mp rfl)
            rw [show (ij_u I 3 5 (nI i)) 3 7 = nI i from h7, nI_1] at q3
            exact q3
          · have q3 := xp_X3_takeToken_128_0 (C := ik_cr xk_P xk_M xk_Y xk_K X (d + 2)) (b := b) (ij_u I 3 5 (nI i)) J (I 2 i) (fun e => absurd (hks.mpr e) (by decide))
            rw [show (ij_u I 3 5 (nI i)) 3 7 = nI i from h7, nI_1] at q3
            exact q3
        · refine rp_steps0_76_0 _ _ _ hn76 0 (rs_isLetter_n hL) (rp_steps0_100_0 _ _ _ 0 rfl 0 (rs_isDigit_n hD) ?_)
          rcases hk with rfl | rfl
          · have q3 := rp_steps0_179_1 (C := rk_call (d2 + 1)) (ij_u (ij_u I2 0 13 (nI i)) 0 15 0) (ij_u J2 0 16 0) (I 2 i) 0 rfl (hks.mp rfl)
            rw [show (ij_u (ij_u I2 0 13 (nI i)) 0 15 0) 0 11 = nI i from h11, show (ij_u (ij_u I2 0 13 (nI i)) 0 15 0) 0 13 = nI i from rfl, nI_1, pk_sub (show i ≤ i + 1 by omega)] at q3
            exact q3
          · have q3 := rp_steps0_179_0 (C := rk_call (d2 + 1)) (ij_u (ij_u I2 0 13 (nI i)) 0 15 0) (ij_u J2 0 16 0) (I 2 i) 0 rfl (fun e => absurd (hks.mpr e) (by decide))
            rw [show (ij_u (ij_u I2 0 13 (nI i)) 0 15 0) 0 11 = nI i from h11, show (ij_u (ij_u I2 0 13 (nI i)) 0 15 0) 0 13 = nI i from rfl, nI_1, pk_sub (show i ≤ i + 1 by omega)] at q3
            exact q3
        · exact ⟨⟨rfl, rfl, rfl⟩, ⟨rfl, rfl, rfl, rfl⟩, ⟨by omega, by omega, by omega⟩, fun h => by omega, fun h => by omega⟩
      by_cases h59 : I 2 i = 59
      · exact hfin 3 (Or.inl rfl) ⟨fun _ => h59, fun _ => rfl⟩
      · exact hfin 4 (Or.inr rfl) ⟨fun h => absurd h (by decide), fun h => absurd h h59⟩
/-- the next token -/
theorem lb_tok : ∀ (r i : Nat) (I I2 : Nat → Nat → Int32) (J2 : Nat → Nat → Int64), i + r = n → lb_by n I I2 → I 3 7 = nI i → I2 0 11 = nI i → ∃ s i' k I' I2' J2', xk_go (ik_cr xk_P xk_M xk_Y xk_K X (d + 2)) 61 (0, [some (.ref 3)], [], (xk_R b, I, J)) none (xk_R b, I', J) ∧ rk_go (rk_call (d2 + 1)) 8 (0, [some (.ref 0), none], [], (rk_R, I2, J2)) none (rk_R, I2', J2') ∧ lb_tk n I' I2' J2' s i' k ∧ lb_fr I I' ∧ lb_fr2 I2 I2' ∧ lb_fJ J2 J2' := by
  intro r
  induction r with
  | zero =>
    intro i I I2 J2 hi hb h7 h11
    have : i = n := by omega
    subst this
    obtain ⟨b1, b2, b3, b4⟩ := hb
    have hle : I 3 6 ≤ I 3 7 := by rw [b2, h7]; exact nI_le (Nat.le_refl i) (by omega)
    have hnl : ¬ I 3 7 < I 3 6 := by rw [b2, h7]; exact nI_nlt (Nat.le_refl i) (by omega)
    refine ⟨i, i, 0, ij_u (ij_u I 3 5 (nI i)) 3 8 0, ij_u (ij_u (ij_u (ij_u I2 0 13 (nI i)) 0 15 0) 0 12 0) 0 14 (nI (i - i)), ij_u J2 0 16 0, ?_, ?_, ?_, lb_fr_u (by decide) (lb_fr_u (by decide) (lb_fr_refl I)), lb_fr2_u (by decide) (lb_fr2_u (by decide) (lb_fr2_u (by decide) (lb_fr2_u (by decide) (lb_fr2_refl I2)))), lb_fJ_u (lb_fJ_refl J2)⟩
    · have q := xp_X3_takeToken_0_1 (C := ik_cr xk_P xk_M xk_Y xk_K X (d + 2)) (b := b) I J hle hnl
      rw [h7] at q
      exact q
    · have q1 := rp_steps0_0_0 (C := rk_call (d2 + 1)) (v := none) (τ := (rk_R, ij_u (ij_u (ij_u (ij_u I2 0 13 (nI i)) 0 15 0) 0 12 0) 0 14 (nI (i - i)), ij_u J2 0 16 0)) I2 J2 (by rw [b3, h11]; exact nI_le (Nat.le_refl i) (by omega)) 0 (I' := ij_u (ij_u I2 0 13 (nI i)) 0 15 0) (J' := ij_u J2 0 16 0)
      have q2 := rp_steps0_76_1 (C := rk_call (d2 + 1)) (ij_u (ij_u I2 0 13 (nI i)) 0 15 0) (ij_u J2 0 16 0) 0 (by show ¬ I2 0 11 < I2 0 10; rw [b3, h11]; exact nI_nlt (Nat.le_refl i) (by omega))
      rw [h11] at q1
      rw [show (ij_u (ij_u I2 0 13 (nI i)) 0 15 0) 0 11 = nI i from h11, show (ij_u (ij_u I2 0 13 (nI i)) 0 15 0) 0 13 = nI i from rfl, pk_sub (Nat.le_refl i)] at q2
      exact q1 (rs_byteAt_e (n := i) b1 b3) q2
    · exact ⟨⟨rfl, h7, rfl⟩, ⟨rfl, h11, rfl, rfl⟩, ⟨Nat.le_refl _, Nat.le_refl _, by decide⟩, fun h => absurd h (by decide), fun h => absurd h (by decide)⟩
  | succ r ih =>
    intro i I I2 J2 hi hb h7 h11
    by_cases hB : lb_B (I 2 i)
    · have hb' := hb
      obtain ⟨b1, b2, b3, b4⟩ := hb'
      obtain ⟨s, i', k, I', I2', J2', g1, g2, g3, g4, g5, g6⟩ := ih (i + 1) (ij_u I 3 7 (nI (i + 1))) (ij_u I2 0 11 (nI (i + 1))) J2 (by omega) hb rfl rfl
      refine ⟨s, i', k, I', I2', J2', ?_, ?_, g3, lb_fr_trans (lb_fr_u (by decide) (lb_fr_refl I)) g4, lb_fr2_trans (lb_fr2_u (by decide) (lb_fr2_refl I2)) g5, g6⟩
      · have ex := lx_byteAt (X := X) (d := d + 1) (b := b) (I := I) (J := J) (k := i) (by omega)
        have q1 := xp_X3_takeToken_0_2 (C := ik_cr xk_P xk_M xk_Y xk_K X (d + 2)) (v := none) (τ := (xk_R b, I', J)) (b := b) I J (I 2 i) (b' := b) (I' := I) (J' := J) (by rw [b2, h7]; exact nI_ge (by omega) (by omega))
        have q2 := xp_X3_takeToken_25_2 (C := ik_cr xk_P xk_M xk_Y xk_K X (d + 2)) (v := none) (τ := (xk_R b, I', J)) (b := b) I J 1 (by decide)
        rw [h7] at q1
        rw [h7, nI_1] at q2
        exact q1 ex (xp_X3_takeToken_22_0 I J _ 1 (lx_isBlank_y hB) (q2 g1))
      · have er := rs_byteAt (d := d2) (J := J2) b1 b3 (k := i) (by omega)
        rw [← b4 i (by omega)] at er
        have q1 := rp_steps0_0_1 (C := rk_call (d2 + 1)) (v := none) (τ := (rk_R, I2', J2')) I2 J2 (by rw [b3, h11]; exact nI_ge (by omega) (by omega)) (I 2 i) (I' := I2) (J' := J2)
        rw [h11] at q1
        refine q1 er ?_
        by_cases e : I 2 i = 32
        · have q2 := rp_steps0_19_0 (C := rk_call (d2 + 1)) (v := none) (τ := (rk_R, I2', J2')) I2 J2 (I 2 i) e
          rw [h11, nI_1] at q2
          exact q2 g2
        · have q2 := rp_steps0_19_1 (C := rk_call (d2 + 1)) (v := none) (τ := (rk_R, I2', J2')) I2 J2 (I 2 i) e (I 2 i) (I' := I2) (J' := J2)
          have q3 := rp_steps0_32_1 (C := rk_call (d2 + 1)) (v := none) (τ := (rk_R, I2', J2')) I2 J2 (I 2 i) (hB.resolve_left e)
          rw [h11] at q2
          rw [h11, nI_1] at q3
          exact q2 er (q3 g2)
    · obtain ⟨i', k, I', I2', J2', g1, g2, g3, g4, g5, g6⟩ := lb_tok_at (X := X) (d := d) (d2 := d2) (b := b) (J := J) (n := n) (i := i) (by omega) I I2 J2 hb h7 h11 hB
      exact ⟨i, i', k, I', I2', J2', g1, g2, g3, g4, g5, g6⟩
/-- .. as calls -/
theorem lb_take {i : Nat} (I I2 : Nat → Nat → Int32) (J2 : Nat → Nat → Int64) (hi : i ≤ n) (hb : lb_by n I I2) (h7 : I 3 7 = nI i) (h11 : I2 0 11 = nI i) : ∃ s i' k I' I2' J2', lk_cx1 X (d + 3) 61 [.ref 3] (xk_R b, I, J) none (xk_R b, I', J) ∧ rk_call (d2 + 2) 8 [.ref 0] (rk_R, I2, J2) none (rk_R, I2', J2') ∧ lb_tk n I' I2' J2' s i' k ∧ lb_fr I I' ∧ lb_fr2 I2 I2' ∧ lb_fJ J2 J2' := by
  obtain ⟨s, i', k, I', I2', J2', g1, g2, g3⟩ := lb_tok (X := X) (d := d) (d2 := d2) (b := b) (J := J) (n := n) (n - i) i I I2 J2 (by omega) hb h7 h11
  exact ⟨s, i', k, I', I2', J2', ik_cr_of (Nat.le_of_ble_eq_true rfl) g1, ij_cr_of (Nat.le_of_ble_eq_true rfl) g2, g3⟩
end LB2
