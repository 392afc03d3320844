/-! ===== laying a board: the class numbers a tile (2) ===== -/
/-- rings with tile n beyond tile t -/
def nb_rg (rg : Nat → Nat) (n t : Nat) : Nat → Nat := fun x => if x = n then rg t + 1 else rg x
/-- neighbours with tile n beyond side s of tile t, not joined round corners yet -/
def nb_a2 (ac : Nat → Nat → Nat) (n t s : Nat) : Nat → Nat → Nat := ac_jn (fun x y => if x = n then 2000 else ac x y) t s n
def nb_f1 (p : Nat) (cs : Nat → Nat) (ac : Nat → Nat → Nat) (rg : Nat → Nat) (n t s : Nat) : Nat := jr (nb_a2 ac n t s) (nb_rg rg n t) (s + (s + 1) % p) (cs s) t ((s + 1) % p)
def nb_a3 (p : Nat) (cs : Nat → Nat) (ac : Nat → Nat → Nat) (rg : Nat → Nat) (n t s : Nat) : Nat → Nat → Nat := ac_jn (nb_a2 ac n t s) (nb_f1 p cs ac rg n t s) ((s + 1) % p) n
def nb_f2 (p : Nat) (cs : Nat → Nat) (ac : Nat → Nat → Nat) (rg : Nat → Nat) (n t s : Nat) : Nat := jr (nb_a3 p cs ac rg n t s) (nb_rg rg n t) (s + (s + p - 1) % p) (cs ((s + p - 1) % p)) t ((s + p - 1) % p)
def nb_a4 (p : Nat) (cs : Nat → Nat) (ac : Nat → Nat → Nat) (rg : Nat → Nat) (n t s : Nat) : Nat → Nat → Nat := ac_jn (nb_a3 p cs ac rg n t s) (nb_f2 p cs ac rg n t s) ((s + p - 1) % p) n
section NB2
variable {d p n : Nat} {b : Bool} {X : ij_R} {ac : Nat → Nat → Nat} {rg : Nat → Nat} {cs : Nat → Nat} {I : Nat → Nat → Int32} {J : Nat → Nat → Int64}
theorem jn_I_ne {c s f q : Nat} (h : q ≠ 9) : jn_I c s f I q = I q := by
  unfold jn_I
  by_cases e : f < 2000
  · rw [if_pos e, ij_u_ne h, ij_u_ne h]
  · rw [if_neg e]
theorem jn_I_hi {c s f x y : Nat} (hs : s < p) (hy : p ≤ y) (hy8 : y < 8) : jn_I c s f I 9 (8 * x + y) = I 9 (8 * x + y) := by
  unfold jn_I
  by_cases e : f < 2000
  · rw [if_pos e, ij_u_other _ _ _ _ (by omega), ij_u_other _ _ _ _ (by omega)]
  · rw [if_neg e]
theorem lx_number (h : pl_t p n ac rg I) (hp3 : 3 ≤ p) (hn : n < 2000) (hcs : ∀ j, j < p → I 7 j = nI (cs j) ∧ cs j < 10) {t s : Nat} (ht : t < n) (hs : s < p) (hg : rg t + 1 < 2000) : ∃ I' : Nat → Nat → Int32, lk_cx1 X (d + 4) 51 [.ref 6, .int (nI t), .int (nI s)] (xk_R b, I, J) none (xk_R b, I', jn_J n (nb_f2 p cs ac rg n t s) (jn_J n (nb_f1 p cs ac rg n t s) (jn_J n t (ij_u J 12 n 0)))) ∧ pl_t p (n + 1) (nb_a4 p cs ac rg n t s) (nb_rg rg n t) I' ∧ I' 11 n = nI s ∧ (∀ q k, q ≠ 9 → ¬ (q = 6 ∧ k = 9) → ¬ (q = 10 ∧ k = n) → ¬ (q = 11 ∧ k = n) → I' q k = I q k) ∧ ∀ x y, p ≤ y → y < 8 → I' 9 (8 * x + y) = if x = n then -1 else I 9 (8 * x + y) := by
  have h' := h
  obtain ⟨p8, n2, h8, h9, h5⟩ := h'
  have o1 := Nat.mod_lt (s + 1) (show 0 < p by omega)
  have o2 := Nat.mod_lt (s + p - 1) (show 0 < p by omega)
  obtain ⟨fm1, fm2⟩ := nb_fm ⟨p, by omega⟩ hp3 ⟨s, by omega⟩ hs
  obtain ⟨⟨r1, r2⟩, _⟩ := h5 t ht
  obtain ⟨I1, a1, ⟨a9, a10, a11, a4⟩, a5⟩ := lx_addTile (X := X) (d := d + 1) (b := b) (I := I) (J := J) (g := nI (rg t + 1)) (s := nI s) hn h9
  have t1 : pl_t p (n + 1) (fun x y => if x = n then 2000 else ac x y) (nb_rg rg n t) I1 := by
    refine ⟨p8, hn, (a5 6 8 (by omega) (by omega) (by omega) (by omega)).trans h8, a9, fun x hx => ?_⟩
    unfold nb_rg
    by_cases e : x = n
    · subst e
      rw [if_pos rfl]
      refine ⟨⟨a10, hg⟩, fun y hy => ?_⟩
      show I1 9 (8 * x + y) = pl_e (if x = x then 2000 else ac x y) ∧ ((if x = x then 2000 else ac x y) < 2000 → (if x = x then 2000 else ac x y) < x + 1)
      rw [if_pos rfl, a4 y (by omega)]
      exact ⟨rfl, fun z => absurd z (by decide)⟩
    · rw [if_neg e]
      obtain ⟨x1, x2⟩ := h5 x (by omega)
      refine ⟨⟨(a5 10 x (by omega) (by omega) (by omega) (by omega)).trans x1.1, x1.2⟩, fun y hy => ?_⟩
      show I1 9 (8 * x + y) = pl_e (if x = n then 2000 else ac x y) ∧ ((if x = n then 2000 else ac x y) < 2000 → (if x = n then 2000 else ac x y) < n + 1)
      rw [if_neg e, a5 9 (8 * x + y) (by omega) (by omega) (by omega) (by omega)]
      exact ⟨(x2 y hy).1, fun z => Nat.lt_succ_of_lt ((x2 y hy).2 z)⟩
  have t2 : pl_t p (n + 1) (nb_a2 ac n t s) (nb_rg rg n t) (jn_I n s t I1) := pl_jn t1 (fun _ => by omega) hs (by omega)
  have t3 : pl_t p (n + 1) (nb_a3 p cs ac rg n t s) (nb_rg rg n t) (jn_I n ((s + 1) % p) (nb_f1 p cs ac rg n t s) (jn_I n s t I1)) := pl_jn t2 (fun z => jr_lt (pl_t_c t2) hs o1 (by omega) z) o1 (by omega)
  have t4 : pl_t p (n + 1) (nb_a4 p cs ac rg n t s) (nb_rg rg n t) (jn_I n ((s + p - 1) % p) (nb_f2 p cs ac rg n t s) (jn_I n ((s + 1) % p) (nb_f1 p cs ac rg n t s) (jn_I n s t I1))) := pl_jn t3 (fun z => jr_lt (pl_t_c t3) hs o2 (by omega) z) o2 (by omega)
  have c7 : ∀ j, j < p → jn_I n s t I1 7 j = nI (cs j) := fun j hj => by
    rw [jn_I_ne (by decide), a5 7 j (by omega) (by omega) (by omega) (by omega)]
    exact (hcs j hj).1
  have c7' : ∀ j, j < p → jn_I n ((s + 1) % p) (nb_f1 p cs ac rg n t s) (jn_I n s t I1) 7 j = nI (cs j) := fun j hj => by
    rw [jn_I_ne (by decide)]
    exact c7 j hj
  refine ⟨jn_I n ((s + p - 1) % p) (nb_f2 p cs ac rg n t s) (jn_I n ((s + 1) % p) (nb_f1 p cs ac rg n t s) (jn_I n s t I1)), ?_, t4, ?_, fun q k x1 x2 x3 x4 => ?_, fun x y hy hy8 => ?_⟩
  · have j1 := lx_join (X := X) (d := d + 1) (b := b) (I := I1) (J := ij_u J 12 n 0) (a := t) (s := s) (c := n) (by omega) (by omega) hn
    rw [show ij_u (ij_u I1 9 (8 * t + s) (nI n)) 9 (8 * n + s) (nI t) = jn_I n s t I1 from (if_pos (show t < 2000 by omega)).symm, show ij_u (ij_u J 12 n 0) 12 n (ij_u J 12 n 0 12 n + ij_u J 12 n 0 12 t) = jn_J n t (ij_u J 12 n 0) from (if_pos (show t < 2000 by omega)).symm] at j1
    have m1 := lx_modulo (X := X) (d := d + 1) (b := b) (I := jn_I n s t I1) (J := jn_J n t (ij_u J 12 n 0)) (nI s - 1) (nI p)
    have m2 := lx_modulo (X := X) (d := d + 1) (b := b) (I := jn_I n s t I1) (J := jn_J n t (ij_u J 12 n 0)) (nI s + 1) (nI p)
    rw [show lf_fm (nI s - 1) (nI p) = nI ((s + p - 1) % p) from fm1] at m1
    rw [show lf_fm (nI s + 1) (nI p) = nI ((s + 1) % p) from fm2] at m2
    have r34 := lx_ringOf (X := X) (d := d + 2) (b := b) (I := I) (J := J) (a := t) (by omega)
    rw [r1] at r34
    rw [← nI_1] at a1
    refine ik_cr_of (Nat.le_of_ble_eq_true rfl) (xp_X2_numberBeyond_0_0 (b' := b) I J (nI t) (nI s) _ r34 ?_)
    rw [h9]
    refine xp_X2_numberBeyond_11_0 (b' := b) I J (nI t) (nI s) (nI n) (nI (rg t)) a1 (xp_X2_numberBeyond_17_0 (b' := b) I1 _ (nI t) (nI s) (nI n) j1 (xp_X2_numberBeyond_24_0 (b' := b) (jn_I n s t I1) _ (nI t) (nI s) (nI ((s + p - 1) % p)) (by rw [t2.2.2.1]; exact m1) (xp_X2_numberBeyond_34_0 (b' := b) (jn_I n s t I1) _ (nI t) (nI s) (nI ((s + p - 1) % p)) (nI ((s + 1) % p)) (by rw [t2.2.2.1]; exact m2) (xp_X2_numberBeyond_49_0 (b' := b) (jn_I n s t I1) _ _ _ _ _ _ _ _ (lx_cornerB (d := d + 2) p8 c7 hs) (xp_X2_numberBeyond_54_0 (b' := b) (jn_I n s t I1) _ _ _ _ _ _ _ _ (lx_joinRound (X := X) (d := d) t2 hs o1 (hcs s hs).2 (by omega)) (xp_X2_numberBeyond_57_0 (b' := b) _ _ _ _ _ _ (lx_cornerB (d := d + 2) p8 c7' o2) (xp_X2_numberBeyond_68_0 (b' := b) _ _ _ _ _ _ (lx_joinRound (X := X) (d := d) t3 hs o2 (hcs _ o2).2 (by omega)) (xp_X2_numberBeyond_71_0 _ _))))))))
  · rw [jn_I_ne (by decide), jn_I_ne (by decide), jn_I_ne (by decide)]
    exact a11
  · rw [jn_I_ne x1, jn_I_ne x1, jn_I_ne x1]
    exact a5 q k x2 x3 x4 (fun z => x1 z.1)
  · rw [jn_I_hi o2 hy hy8, jn_I_hi o1 hy hy8, jn_I_hi hs hy hy8]
    by_cases e : x = n
    · rw [if_pos e, e]; exact a4 y hy8
    · rw [if_neg e]; exact a5 9 _ (by omega) (by omega) (by omega) (by omega)
end NB2
