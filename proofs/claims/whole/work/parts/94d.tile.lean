/-! ===== tile: both answer alike ===== -/
/-- how many of s, .., s + m - 1 have f -/
def lc_c (f : Nat → Bool) : Nat → Nat → Nat
  | _, 0 => 0
  | s, m + 1 => (if f s then 1 else 0) + lc_c f (s + 1) m
theorem lc_c_le (f : Nat → Bool) : ∀ m s, lc_c f s m ≤ m := by
  intro m
  induction m with
  | zero => exact fun _ => Nat.le_refl 0
  | succ m ih =>
    intro s
    have := ih (s + 1)
    show (if f s then 1 else 0) + lc_c f (s + 1) m ≤ m + 1
    by_cases h : f s = true
    · rw [if_pos h]
      omega
    · rw [if_neg h]
      omega
/-- what lies across is a tile or none -/
def lr_acr (p T : Nat) (across : Nat → Int32) : Prop := ∀ a s, a < T → s < p → across (8 * a + s) = -1 ∨ ∃ u, u < T ∧ across (8 * a + s) = nI u
theorem nI_ne_m1 {u : Nat} (hu : u < 2 ^ 31) : ¬ nI u = -1 := by
  intro h
  have := nI_pos hu
  rw [h] at this
  exact this (by decide)
def lf_nb (across : Nat → Int32) (t s : Nat) : Bool := !(across (8 * t + s) == -1)
def lf_ls (across ring : Nat → Int32) (t s : Nat) : Bool := !(across (8 * t + s) == -1) && decide (ring (across (8 * t + s)).toNatClampNeg < ring t)
section LT
variable {X : ij_R} {d : Nat} {b : Bool} {I I2 : Nat → Nat → Int32} {J J2 : Nat → Nat → Int64} {p T t : Nat}
theorem lx_nb (hp : p ≤ 8) (hT : T ≤ 2000) (h8 : I 6 8 = nI p) (h9 : I 6 9 = nI T) (ht : t < T) : lk_cx1 X (d + 2) 39 [.ref 6, .int (nI t)] (xk_R b, I, J) (some (.int (nI (lc_c (lf_nb (I 9) t) 0 p)))) (xk_R b, I, J) := by
  have loop : ∀ m s c, s + m = p → xk_go (ik_cr xk_P xk_M xk_Y xk_K X (d + 1)) 39 (4, [some (.ref 6), some (.int (nI t)), some (.int (nI c)), some (.int (nI s))], [], (xk_R b, I, J)) (some (.int (nI (c + lc_c (lf_nb (I 9) t) s m)))) (xk_R b, I, J) := by
    intro m
    induction m with
    | zero =>
      intro s c hs
      exact xp_X2_neighboursOf_4_0 I J (nI t) (nI c) (nI s) (by rw [h8]; exact nI_le (by omega) (by omega))
    | succ m ih =>
      intro s c hs
      refine xp_X2_neighboursOf_4_1 I J (nI t) (nI c) (nI s) _ (by rw [h8]; exact nI_ge (by omega) (by omega)) (lx_beyond hp hT h8 h9 ht (by omega)) ?_
      show xk_go _ _ _ (some (.int (nI (c + ((if lf_nb (I 9) t s then 1 else 0) + lc_c (lf_nb (I 9) t) (s + 1) m))))) _
      by_cases hq : I 9 (8 * t + s) = -1
      · have hf : lf_nb (I 9) t s = false := by
          unfold lf_nb
          rw [hq]
          rfl
        have k := ih (s + 1) c (by omega)
        rw [← nI_1] at k
        rw [hf, if_neg (by decide), Nat.zero_add]
        exact xp_X2_neighboursOf_18_0 I J (nI t) (nI c) (nI s) _ hq k
      · have hf : lf_nb (I 9) t s = true := by
          unfold lf_nb
          rw [beq_false_of_ne hq]
          rfl
        have k := ih (s + 1) (c + 1) (by omega)
        rw [← nI_1, ← nI_1] at k
        rw [hf, if_pos rfl, ← Nat.add_assoc]
        exact xp_X2_neighboursOf_18_1 I J (nI t) (nI c) (nI s) _ hq k
  have k := loop p 0 0 (Nat.zero_add p)
  rw [Nat.zero_add] at k
  exact ik_cr_of (Nat.le_of_ble_eq_true rfl) (xp_X2_neighboursOf_0_0 I J (nI t) k)
theorem rs_nb (C : ij_R) (hp : p ≤ 8) (hT : T ≤ 2000) (h8 : I2 0 1 = nI p) (ht : t < T) (hh : ∀ s, s < p → I2 7 (8 * t + s) = I 9 (8 * t + s)) : rk_go C 34 (47, [some (.ref 0), some (.int (nI t)), none, some (.int 0), some (.int 0)], [], (rk_R, I2, J2)) (some (.int (nI (lc_c (lf_nb (I 9) t) 0 p)))) (rk_R, I2, J2) := by
  have loop : ∀ m s c, s + m = p → rk_go C 34 (47, [some (.ref 0), some (.int (nI t)), none, some (.int (nI c)), some (.int (nI s))], [], (rk_R, I2, J2)) (some (.int (nI (c + lc_c (lf_nb (I 9) t) s m)))) (rk_R, I2, J2) := by
    intro m
    induction m with
    | zero =>
      intro s c hs
      exact rp_tile_47_0 I2 J2 (nI t) (nI c) (nI s) (by rw [h8]; exact nI_le (by omega) (by omega))
    | succ m ih =>
      intro s c hs
      have e8 := hh s (by omega)
      have hv : vp_in (8 * nI t + nI s) 16000 := by
        rw [lr_8']
        exact vp_in_nI (by omega) (by decide)
      have hc : (8 * nI t + nI s).toNatClampNeg = 8 * t + s := by
        rw [lr_8', nI_clamp (by omega)]
      have h0 : ¬ I2 0 1 ≤ nI s := by
        rw [h8]
        exact nI_ge (by omega) (by omega)
      show rk_go _ _ _ (some (.int (nI (c + ((if lf_nb (I 9) t s then 1 else 0) + lc_c (lf_nb (I 9) t) (s + 1) m))))) _
      by_cases hq : I 9 (8 * t + s) = -1
      · have hf : lf_nb (I 9) t s = false := by
          unfold lf_nb
          rw [hq]
          rfl
        have k := ih (s + 1) c (by omega)
        rw [← nI_1] at k
        rw [hf, if_neg (by decide), Nat.zero_add]
        refine rp_tile_47_1 I2 J2 (nI t) (nI c) (nI s) h0 hv (by rw [hc, e8]; exact hq) ?_
        rw [Int32.add_zero]
        exact k
      · have hf : lf_nb (I 9) t s = true := by
          unfold lf_nb
          rw [beq_false_of_ne hq]
          rfl
        have k := ih (s + 1) (c + 1) (by omega)
        rw [← nI_1, ← nI_1] at k
        rw [hf, if_pos rfl, ← Nat.add_assoc]
        exact rp_tile_47_2 I2 J2 (nI t) (nI c) (nI s) h0 hv (by rw [hc, e8]; exact hq) k
  have k := loop p 0 0 (Nat.zero_add p)
  rw [Nat.zero_add] at k
  exact k
end LT
