/-! ===== laying a board: the class joins a tile round a corner ===== -/
section JN1
variable {d : Nat} {b : Bool} {X : ij_R}
theorem lx_waysTo {I : Nat → Nat → Int32} {J : Nat → Nat → Int64} {a : Nat} (ha : a < 2000) : lk_cx1 X (d + 1) 36 [.ref 6, .int (nI a)] (xk_R b, I, J) (some (.long (J 12 a))) (xk_R b, I, J) := by
  have q := xp_X2_waysTo_0_2 (C := ik_cr xk_P xk_M xk_Y xk_K X d) (b := b) I J (nI a) (nI_pos (by omega)) (by decide) (nI_ge (b := 2000) ha (by decide)) (vp_in_nI ha (by decide))
  rw [nI_clamp (by omega)] at q
  exact ik_cr_of (Nat.le_of_ble_eq_true rfl) q
theorem lx_join {I : Nat → Nat → Int32} {J : Nat → Nat → Int64} {a s c : Nat} (ha : a < 2000) (hs : s < 8) (hc : c < 2000) : lk_cx1 X (d + 2) 53 [.ref 6, .int (nI a), .int (nI s), .int (nI c)] (xk_R b, I, J) none (xk_R b, ij_u (ij_u I 9 (8 * a + s) (nI c)) 9 (8 * c + s) (nI a), ij_u J 12 c (J 12 c + J 12 a)) := by
  have vc : vp_in (nI c) 2000 := vp_in_nI hc (by decide)
  have cl : (nI c).toNatClampNeg = c := nI_clamp (by omega)
  have q3 := xp_X2_join_39_0 (C := ik_cr xk_P xk_M xk_Y xk_K X (d + 1)) (b := b) (ij_u (ij_u I 9 (8 * a + s) (nI c)) 9 (8 * c + s) (nI a)) J (nI c) (J 12 c) (J 12 a) vc
  rw [cl] at q3
  have q2 := xp_X2_join_14_2 (C := ik_cr xk_P xk_M xk_Y xk_K X (d + 1)) (v := none) (τ := (xk_R b, ij_u (ij_u I 9 (8 * a + s) (nI c)) 9 (8 * c + s) (nI a), ij_u J 12 c (J 12 c + J 12 a))) (b := b) (b' := b) (I' := ij_u (ij_u I 9 (8 * a + s) (nI c)) 9 (8 * c + s) (nI a)) (J' := J) (ij_u (ij_u I 9 (8 * a + s) (nI c)) 9 (8 * c + s) (nI a)) J (nI a) (nI c) (J 12 a) (nI_pos (by omega)) (by decide) (nI_ge (b := 2000) hc (by decide)) vc (lx_waysTo (d := d) ha)
  rw [cl] at q2
  exact ik_cr_of (Nat.le_of_ble_eq_true rfl) (xp_X2_join_0_0 I J (nI a) (nI s) (nI c) (lx_setAcross (d := d) ha hs) (xp_X2_join_7_0 _ J (nI a) (nI s) (nI c) (lx_setAcross (d := d) hc hs) (q2 q3)))
end JN1
/-- a neighbour, 2000 if none -/
def pl_e (x : Nat) : Int32 := if x < 2000 then nI x else -1
theorem pl_e_m1 {x : Nat} : pl_e x = -1 ↔ ¬ x < 2000 := by
  unfold pl_e
  by_cases e : x < 2000
  · rw [if_pos e]
    exact ⟨fun z => absurd z (nI_ne_m1 (by omega)), fun z => absurd e z⟩
  · rw [if_neg e]
    exact ⟨fun _ => e, fun _ => rfl⟩
/-- the class's plane under way: n tiles -/
def pl_t (p n : Nat) (ac : Nat → Nat → Nat) (rg : Nat → Nat) (I : Nat → Nat → Int32) : Prop := p ≤ 8 ∧ n ≤ 2000 ∧ I 6 8 = nI p ∧ I 6 9 = nI n ∧ ∀ t, t < n → (I 10 t = nI (rg t) ∧ rg t < 2000) ∧ ∀ s, s < p → I 9 (8 * t + s) = pl_e (ac t s) ∧ (ac t s < 2000 → ac t s < n)
/-- down round the corner: 2000 if it does not go down -/
def jr_dn (ac : Nat → Nat → Nat) (rg : Nat → Nat) (w : Nat) : Nat → Nat → Nat → Nat × Nat
  | 0, t, y => (t, y)
  | k + 1, t, y => if ac t y < 2000 ∧ rg (ac t y) < rg t then jr_dn ac rg w k (ac t y) (w - y) else (2000, y)
/-- and up again -/
def jr_up (ac : Nat → Nat → Nat) (w : Nat) : Nat → Nat → Nat → Nat
  | 0, t, _ => t
  | k + 1, t, y => if t < 2000 then jr_up ac w k (ac t y) (w - y) else t
section JN2
variable {d p n : Nat} {b : Bool} {X : ij_R} {ac : Nat → Nat → Nat} {rg : Nat → Nat} {I : Nat → Nat → Int32} {J : Nat → Nat → Int64}
theorem lx_jr_dn (h : pl_t p n ac rg I) {r s m : Nat} (hr : r < p) (hs : s < p) (hm : m < 10) {x5 : Int32} {v : Option Value} {τ : ij_S} : ∀ (k i t y : Nat), i + k = m → 1 ≤ i → t < n → (y = r ∨ y = s) → (∀ t' y', jr_dn ac rg (r + s) k t y = (t', y') → t' < n → (y' = r ∨ y' = s) → xk_go (ik_cr xk_P xk_M xk_Y xk_K X (d + 2)) 55 (67, [some (.ref 6), none, some (.int (nI r)), some (.int (nI s)), some (.int (nI m)), some (.int x5), some (.int (nI t')), some (.int (nI y')), some (.int 1), none], [], (xk_R b, I, J)) v τ) → (¬ (jr_dn ac rg (r + s) k t y).1 < 2000 → v = none ∧ τ = (xk_R b, I, J)) → xk_go (ik_cr xk_P xk_M xk_Y xk_K X (d + 2)) 55 (17, [some (.ref 6), none, some (.int (nI r)), some (.int (nI s)), some (.int (nI m)), some (.int x5), some (.int (nI t)), some (.int (nI y)), some (.int (nI i)), none], [], (xk_R b, I, J)) v τ := by
  obtain ⟨p8, n2, h8, h9, ht'⟩ := h
  intro k
  induction k with
  | zero =>
    intro i t y hi i1 ht hy hg _
    exact xp_X2_joinRound_17_0 I J _ _ _ _ _ _ _ (nI_le (show m ≤ i by omega) (by omega)) (hg t y rfl ht hy)
  | succ k ih =>
    intro i t y hi i1 ht hy hg hx
    have yp : y < p := by omega
    obtain ⟨⟨g1, g2⟩, g3⟩ := ht' t ht
    obtain ⟨a1, a2⟩ := g3 y yp
    have c33 := lx_beyond (X := X) (d := d + 1) (b := b) (J := J) p8 n2 h8 h9 ht yp
    rw [a1] at c33
    refine xp_X2_joinRound_17_1 (b' := b) (I' := I) (J' := J) I J _ _ _ _ _ _ _ _ (nI_ge (show i < m by omega) (by omega)) c33 ?_
    by_cases e : ac t y < 2000
    · have un := a2 e
      have eu : pl_e (ac t y) = nI (ac t y) := if_pos e
      obtain ⟨⟨u1, u2⟩, _⟩ := ht' (ac t y) un
      have c37 := lx_isLesser_y (X := X) (d := d) (b := b) (I := I) (J := J) (u := ac t y) (t := t) e (by omega)
      rw [eu]
      refine xp_X2_joinRound_32_0 (b' := b) (I' := I) (J' := J) I J _ _ _ _ _ _ _ _ _ c37 ?_
      by_cases el : rg (ac t y) < rg t
      · have ed : jr_dn ac rg (r + s) (k + 1) t y = jr_dn ac rg (r + s) k (ac t y) (r + s - y) := by
          show (if _ then _ else _) = _
          rw [if_pos ⟨e, el⟩]
        rw [ed] at hg hx
        have lt : I 10 (ac t y) < I 10 t := by
          rw [u1, g1]
          exact Int32.not_le.mp (nI_ge el (by omega))
        rw [if_pos lt]
        have q := xp_X2_joinRound_42_0 (C := ik_cr xk_P xk_M xk_Y xk_K X (d + 2)) (v := v) (τ := τ) (b := b) I J (nI r) (nI s) (nI m) x5 (nI y) (nI i) (nI (ac t y)) 1 (by decide)
        rw [show nI r + nI s = nI (r + s) from (Int32.ofNat_add _ _).symm, pk_sub (show y ≤ r + s by omega), nI_1] at q
        exact q (ih (i + 1) (ac t y) (r + s - y) (by omega) (by omega) un (by omega) hg hx)
      · have ed : jr_dn ac rg (r + s) (k + 1) t y = (2000, y) := by
          show (if _ then _ else _) = _
          rw [if_neg (fun z => el z.2)]
        rw [ed] at hx
        obtain ⟨x1, x2⟩ := hx (by show ¬ 2000 < 2000; omega)
        have nlt : ¬ I 10 (ac t y) < I 10 t := by
          rw [u1, g1]
          exact Int32.not_lt.mpr (nI_le (by omega) (by omega))
        rw [if_neg nlt, x1, x2]
        exact xp_X2_joinRound_42_1 I J _ _ _ _ _ _ _ 0 rfl
    · have ed : jr_dn ac rg (r + s) (k + 1) t y = (2000, y) := by
        show (if _ then _ else _) = _
        rw [if_neg (fun z => e z.1)]
      rw [ed] at hx
      obtain ⟨x1, x2⟩ := hx (by show ¬ 2000 < 2000; omega)
      rw [pl_e_m1.mpr e, x1, x2]
      refine xp_X2_joinRound_32_0 (b' := b) (I' := I) (J' := J) I J _ _ _ _ _ _ _ _ _ (lx_isLesser_n (X := X) (d := d + 1)) (xp_X2_joinRound_42_1 I J _ _ _ _ _ _ _ 0 rfl)
end JN2
