/-! ===== board: the two words; what is good ===== -/
theorem lg_eq {x y : Int64} : lg_cmp x y = 0 ↔ x = y := by
  unfold lg_cmp
  by_cases h : x > y
  · rw [if_pos h]
    exact ⟨fun q => absurd q (by decide), fun q => by subst q; exact absurd h (Int64.lt_irrefl)⟩
  · rw [if_neg h]
    by_cases e : x = y
    · rw [if_pos e]
      exact ⟨fun _ => e, fun _ => rfl⟩
    · rw [if_neg e]
      exact ⟨fun q => absurd q (by decide), fun q => absurd q e⟩
theorem lb_w7 (f : Nat → Nat) (s : Nat) : lb_w f s 7 = ((((((0 * 32 + (f (s + 0) - 96)) * 32 + (f (s + 1) - 96)) * 32 + (f (s + 2) - 96)) * 32 + (f (s + 3) - 96)) * 32 + (f (s + 4) - 96)) * 32 + (f (s + 5) - 96)) * 32 + (f (s + 6) - 96) := rfl
theorem lb_w3 (f : Nat → Nat) (s : Nat) : lb_w f s 3 = ((0 * 32 + (f (s + 0) - 96)) * 32 + (f (s + 1) - 96)) * 32 + (f (s + 2) - 96) := rfl
theorem lb_dig {a b c e : Nat} (hb : b < 32) (he : e < 32) : a * 32 + b = c * 32 + e ↔ a = c ∧ b = e := by omega
section LB3
variable {d d2 n s i k : Nat} {b : Bool} {I I2 : Nat → Nat → Int32} {J J2 : Nat → Nat → Int64}
theorem lx_isWord {w : Nat} (hw : w < 2) : lk_cx1 xw_X (d + 1) 64 [.ref 3, .ref (1001 + w)] (xk_R b, I, J) (some (.int (xw_w I w))) (xk_R b, I, J) := Or.inl (Or.inr ⟨rfl, w, b, I, J, hw, rfl, rfl, rfl, rfl⟩)
/-- a byte of the token, as isWord sees it -/
theorem lb_xby (hn : n ≤ 200) (ht : lb_tk n I I2 J2 s i k) {j : Nat} (hj : s + j < i) : xw_by I (I 3 5 + nI j) = I 2 (s + j) := by
  obtain ⟨⟨t1, -, -⟩, -, ⟨t2, t3, -⟩, -, -⟩ := ht
  rw [t1, nI_add]
  unfold xw_by
  rw [if_neg (nI_pos (by omega)), if_neg (show ¬ (200 : Int32) ≤ nI (s + j) from nI_ge (b := 200) (by omega) (by decide)), nI_clamp (by omega)]
/-- both know the word -/
theorem lb_word_eq (hn : n ≤ 200) (ht : lb_tk n I I2 J2 s i k) (w L : Nat) (hL : jx_len.getD w 0 = L) (hL0 : L ≤ 8) : xw_w I w = if k = 1 ∧ i - s = L ∧ ∀ j, j < L → I 2 (s + j) = jx_ch w j then 1 else 0 := by
  have ht' := ht
  obtain ⟨⟨t1, t2, t3⟩, -, ⟨t4, t5, t6⟩, -, -⟩ := ht'
  unfold xw_w
  rw [hL, t1, t2, t3, pk_sub t4]
  by_cases h : k = 1 ∧ i - s = L ∧ ∀ j, j < L → I 2 (s + j) = jx_ch w j
  · rw [if_pos h, if_pos]
    refine ⟨by rw [h.1]; rfl, by rw [h.2.1], fun j hj => ?_⟩
    have := lb_xby hn ht (j := j) (by omega)
    rw [t1] at this
    rw [this]
    exact h.2.2 j hj
  · rw [if_neg h, if_neg]
    intro q
    have hk : k = 1 := (nI_eq (b := 1) (by omega) (by decide)).mp q.1
    have hl : i - s = L := (nI_eq (by omega) (by omega)).mp q.2.1
    refine h ⟨hk, hl, fun j hj => ?_⟩
    have := lb_xby hn ht (j := j) (by omega)
    rw [t1] at this
    rw [← this]
    exact q.2.2 j hj
theorem lb_corners (hn : n ≤ 200) (ht : lb_tk n I I2 J2 s i k) : rk_call (d2 + 2) 13 [.ref 0] (rk_R, I2, J2) (some (.int (xw_w I 0))) (rk_R, I2, J2) := by
  have ht' := ht
  obtain ⟨-, ⟨r1, r2, r3, r4⟩, ⟨t4, t5, t6⟩, -, tw⟩ := ht'
  rw [lb_word_eq hn ht 0 7 rfl (by decide)]
  refine ij_cr_of (Nat.le_of_ble_eq_true rfl) ?_
  by_cases hk : k = 1
  · by_cases hl : i - s = 7
    · obtain ⟨hL, hJ⟩ := tw hk
      have hlet := ij_cr_of (P := rk_P) (M := rk_M) (K := rk_K) (X := fun _ _ _ _ _ => False) (d := d2) (j := 9) (as := [.int 99, .int 111, .int 114, .int 110, .int 101, .int 114, .int 115]) (Nat.le_of_ble_eq_true rfl) (rp_letters_0_0 (C := rk_call d2) I2 J2 99 111 114 110 101 114 115 (by decide))
      refine rp_isCorners_0_2 I2 J2 (by rw [r3, hk]; rfl) (by rw [r4, hl]; rfl) (lN 3743880787) hlet ?_
      rw [hl, lb_w7] at hJ
      have hf : ∀ j, j < 7 → ∃ m, 97 ≤ m ∧ m ≤ 122 ∧ I 2 (s + j) = nI m ∧ (I 2 (s + j)).toNatClampNeg = m := fun j hj => by
        obtain ⟨m, a1, a2, a3⟩ := lb_L_nat (hL (s + j) (by omega) (by omega))
        exact ⟨m, a1, a2, a3, by rw [a3]; exact nI_clamp (by omega)⟩
      obtain ⟨m0, a0, c0, e0, f0⟩ := hf 0 (by decide)
      obtain ⟨m1, a1, c1, e1, f1⟩ := hf 1 (by decide)
      obtain ⟨m2, a2, c2, e2, f2⟩ := hf 2 (by decide)
      obtain ⟨m3, a3, c3, e3, f3⟩ := hf 3 (by decide)
      obtain ⟨m4, a4, c4, e4, f4⟩ := hf 4 (by decide)
      obtain ⟨m5, a5, c5, e5, f5⟩ := hf 5 (by decide)
      obtain ⟨m6, a6, c6, e6, f6⟩ := hf 6 (by decide)
      simp only [f0, f1, f2, f3, f4, f5, f6] at hJ
      have key : ((((((0 * 32 + (m0 - 96)) * 32 + (m1 - 96)) * 32 + (m2 - 96)) * 32 + (m3 - 96)) * 32 + (m4 - 96)) * 32 + (m5 - 96)) * 32 + (m6 - 96) = 3743880787 ↔ ∀ j, j < 7 → I 2 (s + j) = jx_ch 0 j := by
        constructor
        · intro h j hj
          have z : m0 = 99 ∧ m1 = 111 ∧ m2 = 114 ∧ m3 = 110 ∧ m4 = 101 ∧ m5 = 114 ∧ m6 = 115 := by omega
          obtain ⟨z0, z1, z2, z3, z4, z5, z6⟩ := z
          rcases (show j = 0 ∨ j = 1 ∨ j = 2 ∨ j = 3 ∨ j = 4 ∨ j = 5 ∨ j = 6 by omega) with rfl | rfl | rfl | rfl | rfl | rfl | rfl
          · rw [e0, z0]; rfl
          · rw [e1, z1]; rfl
          · rw [e2, z2]; rfl
          · rw [e3, z3]; rfl
          · rw [e4, z4]; rfl
          · rw [e5, z5]; rfl
          · rw [e6, z6]; rfl
        · intro h
          have y : ∀ {m : Nat} {j c : Nat}, j < 7 → I 2 (s + j) = nI m → m ≤ 122 → jx_ch 0 j = nI c → c < 1000 → m = c := fun hj he hm hc hc2 => (nI_eq (by omega) (by omega)).mp (by rw [← he, h _ hj, hc])
          have z0 : m0 = 99 := y (j := 0) (by decide) e0 c0 rfl (by decide)
          have z1 : m1 = 111 := y (j := 1) (by decide) e1 c1 rfl (by decide)
          have z2 : m2 = 114 := y (j := 2) (by decide) e2 c2 rfl (by decide)
          have z3 : m3 = 110 := y (j := 3) (by decide) e3 c3 rfl (by decide)
          have z4 : m4 = 101 := y (j := 4) (by decide) e4 c4 rfl (by decide)
          have z5 : m5 = 114 := y (j := 5) (by decide) e5 c5 rfl (by decide)
          have z6 : m6 = 115 := y (j := 6) (by decide) e6 c6 rfl (by decide)
          subst z0 z1 z2 z3 z4 z5 z6
          rfl
      by_cases h : ∀ j, j < 7 → I 2 (s + j) = jx_ch 0 j
      · rw [if_pos ⟨hk, hl, h⟩]
        exact rp_isCorners_38_1 I2 J2 (J2 0 16) (lN 3743880787) (lg_eq.mpr (by rw [hJ, key.mpr h]))
      · rw [if_neg (fun q => h q.2.2)]
        exact rp_isCorners_38_0 I2 J2 (J2 0 16) (lN 3743880787) (fun q => h (key.mp ((pk_lEQ (by omega) (by decide)).mp (by rw [← hJ]; exact lg_eq.mp q))))
    · rw [if_neg (fun q => hl q.2.1)]
      exact rp_isCorners_0_1 I2 J2 (by rw [r3, hk]; rfl) (by rw [r4]; exact fun q => hl ((nI_eq (b := 7) (by omega) (by decide)).mp q))
  · rw [if_neg (fun q => hk q.1)]
    exact rp_isCorners_0_0 I2 J2 (by rw [r3]; exact fun q => hk ((nI_eq (b := 1) (by omega) (by decide)).mp q))
theorem lb_ant (hn : n ≤ 200) (ht : lb_tk n I I2 J2 s i k) : rk_call (d2 + 2) 14 [.ref 0] (rk_R, I2, J2) (some (.int (xw_w I 1))) (rk_R, I2, J2) := by
  have ht' := ht
  obtain ⟨-, ⟨r1, r2, r3, r4⟩, ⟨t4, t5, t6⟩, -, tw⟩ := ht'
  rw [lb_word_eq hn ht 1 3 rfl (by decide)]
  refine ij_cr_of (Nat.le_of_ble_eq_true rfl) ?_
  by_cases hk : k = 1
  · by_cases hl : i - s = 3
    · obtain ⟨hL, hJ⟩ := tw hk
      have hlet := ij_cr_of (P := rk_P) (M := rk_M) (K := rk_K) (X := fun _ _ _ _ _ => False) (d := d2) (j := 9) (as := [.int 97, .int 110, .int 116, .int 0, .int 0, .int 0, .int 0]) (Nat.le_of_ble_eq_true rfl) (rp_letters_0_1 (C := rk_call d2) I2 J2 97 110 116 0 0 0 0 rfl)
      refine rp_isAnt_0_2 I2 J2 (by rw [r3, hk]; rfl) (by rw [r4, hl]; rfl) (lN 1492) hlet ?_
      rw [hl, lb_w3] at hJ
      have hf : ∀ j, j < 3 → ∃ m, 97 ≤ m ∧ m ≤ 122 ∧ I 2 (s + j) = nI m ∧ (I 2 (s + j)).toNatClampNeg = m := fun j hj => by
        obtain ⟨m, a1, a2, a3⟩ := lb_L_nat (hL (s + j) (by omega) (by omega))
        exact ⟨m, a1, a2, a3, by rw [a3]; exact nI_clamp (by omega)⟩
      obtain ⟨m0, a0, c0, e0, f0⟩ := hf 0 (by decide)
      obtain ⟨m1, a1, c1, e1, f1⟩ := hf 1 (by decide)
      obtain ⟨m2, a2, c2, e2, f2⟩ := hf 2 (by decide)
      simp only [f0, f1, f2] at hJ
      have key : ((0 * 32 + (m0 - 96)) * 32 + (m1 - 96)) * 32 + (m2 - 96) = 1492 ↔ ∀ j, j < 3 → I 2 (s + j) = jx_ch 1 j := by
        constructor
        · intro h j hj
          have z : m0 = 97 ∧ m1 = 110 ∧ m2 = 116 := by omega
          obtain ⟨z0, z1, z2⟩ := z
          rcases (show j = 0 ∨ j = 1 ∨ j = 2 by omega) with rfl | rfl | rfl
          · rw [e0, z0]; rfl
          · rw [e1, z1]; rfl
          · rw [e2, z2]; rfl
        · intro h
          have y : ∀ {m : Nat} {j c : Nat}, j < 3 → I 2 (s + j) = nI m → m ≤ 122 → jx_ch 1 j = nI c → c < 1000 → m = c := fun hj he hm hc hc2 => (nI_eq (by omega) (by omega)).mp (by rw [← he, h _ hj, hc])
          have z0 : m0 = 97 := y (j := 0) (by decide) e0 c0 rfl (by decide)
          have z1 : m1 = 110 := y (j := 1) (by decide) e1 c1 rfl (by decide)
          have z2 : m2 = 116 := y (j := 2) (by decide) e2 c2 rfl (by decide)
          subst z0 z1 z2
          rfl
      by_cases h : ∀ j, j < 3 → I 2 (s + j) = jx_ch 1 j
      · rw [if_pos ⟨hk, hl, h⟩]
        exact rp_isAnt_33_1 I2 J2 (J2 0 16) (lN 1492) (lg_eq.mpr (by rw [hJ, key.mpr h]))
      · rw [if_neg (fun q => h q.2.2)]
        exact rp_isAnt_33_0 I2 J2 (J2 0 16) (lN 1492) (fun q => h (key.mp ((pk_lEQ (by omega) (by decide)).mp (by rw [← hJ]; exact lg_eq.mp q))))
    · rw [if_neg (fun q => hl q.2.1)]
      exact rp_isAnt_0_1 I2 J2 (by rw [r3, hk]; rfl) (by rw [r4]; exact fun q => hl ((nI_eq (b := 3) (by omega) (by decide)).mp q))
  · rw [if_neg (fun q => hk q.1)]
    exact rp_isAnt_0_0 I2 J2 (by rw [r3]; exact fun q => hk ((nI_eq (b := 1) (by omega) (by decide)).mp q))
theorem rs_wrong (f : Int32) (h : I2 0 7 = 0) : rk_call (d2 + 1) 10 [.ref 0, .int f] (rk_R, I2, J2) none (rk_R, ij_u (ij_u I2 0 7 f) 0 8 (I2 0 13), J2) := ij_cr_of (Nat.le_of_ble_eq_true rfl) (rp_wrong_0_0 I2 J2 f h)
theorem rs_isGood_y (h : I2 0 7 = 0) : rk_call (d2 + 1) 11 [.ref 0] (rk_R, I2, J2) (some (.int 1)) (rk_R, I2, J2) := ij_cr_of (Nat.le_of_ble_eq_true rfl) (rp_isGood_0_1 I2 J2 h)
theorem rs_isGood_n (h : ¬ I2 0 7 = 0) : rk_call (d2 + 1) 11 [.ref 0] (rk_R, I2, J2) (some (.int 0)) (rk_R, I2, J2) := ij_cr_of (Nat.le_of_ble_eq_true rfl) (rp_isGood_0_0 I2 J2 h)
/-- need where all is lost already -/
theorem rs_need_x (x : Int32) (h : ¬ I2 0 7 = 0) : rk_call (d2 + 2) 12 [.ref 0, .int x] (rk_R, I2, J2) none (rk_R, I2, J2) := ij_cr_of (Nat.le_of_ble_eq_true rfl) (rp_need_0_0 I2 J2 x 0 (rs_isGood_n h) (rp_need_4_2 I2 J2 x 0 rfl))
theorem rs_need_n (h : I2 0 7 = 0) : rk_call (d2 + 2) 12 [.ref 0, .int 0] (rk_R, I2, J2) none (rk_R, ij_u (ij_u I2 0 7 1) 0 8 (I2 0 13), J2) := ij_cr_of (Nat.le_of_ble_eq_true rfl) (rp_need_0_0 I2 J2 0 1 (rs_isGood_y h) (rp_need_4_0 I2 J2 0 1 (by decide) rfl (rs_wrong 1 h) (rp_need_24_0 _ J2)))
theorem rs_need_y {x : Int32} (hx : ¬ x = 0) (h : I2 0 7 = 0) {I2' : Nat → Nat → Int32} {J2' : Nat → Nat → Int64} (hs : rk_call (d2 + 1) 8 [.ref 0] (rk_R, I2, J2) none (rk_R, I2', J2')) : rk_call (d2 + 2) 12 [.ref 0, .int x] (rk_R, I2, J2) none (rk_R, I2', J2') := ij_cr_of (Nat.le_of_ble_eq_true rfl) (rp_need_0_0 I2 J2 x 1 (rs_isGood_y h) (rp_need_4_1 I2 J2 x 1 (by decide) hx hs (rp_need_16_0 I2' J2')))
end LB3
