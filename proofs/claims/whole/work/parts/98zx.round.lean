/-! ===== laying a board: up round a corner, and all round it ===== -/
def jn_I (c s f : Nat) (I : Nat → Nat → Int32) : Nat → Nat → Int32 := if f < 2000 then ij_u (ij_u I 9 (8 * f + s) (nI c)) 9 (8 * c + s) (nI f) else I
def jn_J (c f : Nat) (J : Nat → Nat → Int64) : Nat → Nat → Int64 := if f < 2000 then ij_u J 12 c (J 12 c + J 12 f) else J
/-- the tile to be joined round the corner, 2000 if there is none -/
def jr (ac : Nat → Nat → Nat) (rg : Nat → Nat) (w m t y : Nat) : Nat := if m = 0 then 2000 else if (jr_dn ac rg w (m - 1) t y).1 < 2000 then jr_up ac w (m - 1) (jr_dn ac rg w (m - 1) t y).1 (jr_dn ac rg w (m - 1) t y).2 else 2000
section JN3
variable {d p n : Nat} {b : Bool} {X : ij_R} {ac : Nat → Nat → Nat} {rg : Nat → Nat} {I : Nat → Nat → Int32} {J : Nat → Nat → Int64}
theorem lx_jr_up (h : pl_t p n ac rg I) {r s m c : Nat} (hr : r < p) (hs : s < p) (hm : m < 10) (hc : c < 2000) : ∀ (k i t y : Nat), i + k = m → 1 ≤ i → (t < 2000 → t < n) → (y = r ∨ y = s) → xk_go (ik_cr xk_P xk_M xk_Y xk_K X (d + 2)) 55 (67, [some (.ref 6), none, some (.int (nI r)), some (.int (nI s)), some (.int (nI m)), some (.int (nI c)), some (.int (pl_e t)), some (.int (nI y)), some (.int (nI i)), none], [], (xk_R b, I, J)) none (xk_R b, jn_I c s (jr_up ac (r + s) k t y) I, jn_J c (jr_up ac (r + s) k t y) J) := by
  obtain ⟨p8, n2, h8, h9, ht'⟩ := h
  have stop : ∀ t, ¬ t < 2000 → (xk_R b, jn_I c s t I, jn_J c t J) = ((xk_R b, I, J) : ij_S) := fun t ht => by
    rw [show jn_I c s t I = I from if_neg ht, show jn_J c t J = J from if_neg ht]
  intro k
  induction k with
  | zero =>
    intro i t y hi i1 ht hy
    show xk_go _ 55 _ none (xk_R b, jn_I c s t I, jn_J c t J)
    have le : nI m ≤ nI i := nI_le (show m ≤ i by omega) (by omega)
    have m0 : ¬ nI m = 0 := nI_ne0 (by omega) (by omega)
    by_cases e : t < 2000
    · rw [show jn_I c s t I = ij_u (ij_u I 9 (8 * t + s) (nI c)) 9 (8 * c + s) (nI t) from if_pos e, show jn_J c t J = ij_u J 12 c (J 12 c + J 12 t) from if_pos e, show pl_e t = nI t from if_pos e]
      exact xp_X2_joinRound_67_2 (b' := b) I J _ _ _ _ _ _ _ le m0 (nI_ne_m1 (by omega)) (lx_join (X := X) (d := d) e (by omega) hc) (xp_X2_joinRound_124_0 _ _)
    · rw [stop t e]
      exact xp_X2_joinRound_67_1 I J _ _ _ _ _ _ _ le m0 (pl_e_m1.mpr e)
  | succ k ih =>
    intro i t y hi i1 ht hy
    have yp : y < p := by omega
    have ge : ¬ nI m ≤ nI i := nI_ge (show i < m by omega) (by omega)
    by_cases e : t < 2000
    · have eu : jr_up ac (r + s) (k + 1) t y = jr_up ac (r + s) k (ac t y) (r + s - y) := by
        show (if _ then _ else _) = _
        rw [if_pos e]
      rw [eu, show pl_e t = nI t from if_pos e]
      obtain ⟨_, g3⟩ := ht' t (ht e)
      obtain ⟨a1, a2⟩ := g3 y yp
      have c33 := lx_beyond (X := X) (d := d + 1) (b := b) (J := J) p8 n2 h8 h9 (ht e) yp
      rw [a1] at c33
      refine xp_X2_joinRound_67_6 (b' := b) (I' := I) (J' := J) I J _ _ _ _ _ _ _ _ ge (nI_ne_m1 (by omega)) c33 ?_
      have q := xp_X2_joinRound_88_0 (C := ik_cr xk_P xk_M xk_Y xk_K X (d + 2)) (v := none) (τ := (xk_R b, jn_I c s (jr_up ac (r + s) k (ac t y) (r + s - y)) I, jn_J c (jr_up ac (r + s) k (ac t y) (r + s - y)) J)) (b := b) I J (nI r) (nI s) (nI m) (nI c) (nI y) (nI i) (pl_e (ac t y))
      rw [show nI r + nI s = nI (r + s) from (Int32.ofNat_add _ _).symm, pk_sub (show y ≤ r + s by omega), nI_1] at q
      exact q (ih (i + 1) (ac t y) (r + s - y) (by omega) (by omega) a2 (by omega))
    · have eu : jr_up ac (r + s) (k + 1) t y = t := by
        show (if _ then _ else _) = _
        rw [if_neg e]
      rw [eu, stop t e, pl_e_m1.mpr e]
      exact xp_X2_joinRound_67_4 I J _ _ _ _ _ _ _ ge rfl (nI_ne0 (by omega) (by omega)) rfl
/-- the newest tile is joined round the corner between sides r and s -/
theorem lx_joinRound (h : pl_t p n ac rg I) {r s m t : Nat} (hr : r < p) (hs : s < p) (hm : m < 10) (ht : t < n) : lk_cx1 X (d + 3) 55 [.ref 6, .int (nI t), .int (nI r), .int (nI s), .int (nI m)] (xk_R b, I, J) none (xk_R b, jn_I (n - 1) s (jr ac rg (r + s) m t s) I, jn_J (n - 1) (jr ac rg (r + s) m t s) J) := by
  have h' := h
  obtain ⟨p8, n2, h8, h9, ht'⟩ := h'
  have stop : ∀ t, ¬ t < 2000 → (xk_R b, jn_I (n - 1) s t I, jn_J (n - 1) t J) = ((xk_R b, I, J) : ij_S) := fun t ht => by
    rw [show jn_I (n - 1) s t I = I from if_neg ht, show jn_J (n - 1) t J = J from if_neg ht]
  refine ik_cr_of (Nat.le_of_ble_eq_true rfl) (xp_X2_joinRound_0_0 I J (nI t) (nI r) (nI s) (nI m) ?_)
  rw [h9, nI_sub1 (show 1 ≤ n by omega)]
  by_cases m0 : m = 0
  · rw [show jr ac rg (r + s) m t s = 2000 from if_pos m0, stop 2000 (by decide), m0]
    exact xp_X2_joinRound_17_0 I J _ _ _ _ _ _ _ (by decide) (xp_X2_joinRound_67_0 I J _ _ _ _ _ _ _ (by decide) rfl)
  · have ej : jr ac rg (r + s) m t s = if (jr_dn ac rg (r + s) (m - 1) t s).1 < 2000 then jr_up ac (r + s) (m - 1) (jr_dn ac rg (r + s) (m - 1) t s).1 (jr_dn ac rg (r + s) (m - 1) t s).2 else 2000 := if_neg m0
    refine lx_jr_dn (X := X) (d := d) h hr hs hm (m - 1) 1 t s (by omega) (Nat.le_refl 1) ht (Or.inr rfl) (fun t' y' e he hy => ?_) (fun e => ?_)
    · rw [e] at ej
      rw [ej, if_pos (show t' < 2000 by omega)]
      have q := lx_jr_up (X := X) (d := d) (b := b) (J := J) (c := n - 1) h hr hs hm (by omega) (m - 1) 1 t' y' (by omega) (Nat.le_refl 1) (fun _ => he) hy
      rw [show pl_e t' = nI t' from if_pos (by omega)] at q
      exact q
    · rw [ej, if_neg e]
      exact ⟨rfl, stop 2000 (by decide)⟩
end JN3
