/-! ===== laying a board: the class numbers a tile ===== -/
theorem nb_fm : ∀ p : Fin 9, 3 ≤ p.1 → ∀ s : Fin 8, s.1 < p.1 → lf_fm (nI s.1 - 1) (nI p.1) = nI ((s.1 + p.1 - 1) % p.1) ∧ lf_fm (nI s.1 + 1) (nI p.1) = nI ((s.1 + 1) % p.1) := by decide +kernel
/-- tiles a and c are joined at side s -/
def ac_j (ac : Nat → Nat → Nat) (a s c : Nat) : Nat → Nat → Nat := fun t y => if t = c ∧ y = s then a else if t = a ∧ y = s then c else ac t y
/-- joined if there is a tile -/
def ac_jn (ac : Nat → Nat → Nat) (f s c : Nat) : Nat → Nat → Nat := if f < 2000 then ac_j ac f s c else ac
/-- neighbours stay among n tiles -/
def pl_c (p n : Nat) (ac : Nat → Nat → Nat) : Prop := ∀ t s, t < n → s < p → ac t s < 2000 → ac t s < n
section NB1
variable {d p n : Nat} {b : Bool} {X : ij_R} {ac : Nat → Nat → Nat} {rg : Nat → Nat} {I : Nat → Nat → Int32} {J : Nat → Nat → Int64}
theorem jr_dn_lt (h : pl_c p n ac) {r s : Nat} (hr : r < p) (hs : s < p) : ∀ (k t y : Nat), t < n → (y = r ∨ y = s) → (jr_dn ac rg (r + s) k t y).1 < 2000 → (jr_dn ac rg (r + s) k t y).1 < n ∧ ((jr_dn ac rg (r + s) k t y).2 = r ∨ (jr_dn ac rg (r + s) k t y).2 = s) := by
  intro k
  induction k with
  | zero => intro t y ht hy _; exact ⟨ht, hy⟩
  | succ k ih =>
    intro t y ht hy hl
    by_cases e : ac t y < 2000 ∧ rg (ac t y) < rg t
    · have ed : jr_dn ac rg (r + s) (k + 1) t y = jr_dn ac rg (r + s) k (ac t y) (r + s - y) := by
        show (if _ then _ else _) = _
        rw [if_pos e]
      rw [ed] at hl ⊢
      exact ih _ _ (h t y ht (by omega) e.1) (by omega) hl
    · have ed : jr_dn ac rg (r + s) (k + 1) t y = (2000, y) := by
        show (if _ then _ else _) = _
        rw [if_neg e]
      rw [ed] at hl
      exact absurd hl (by show ¬ 2000 < 2000; omega)
theorem jr_up_lt (h : pl_c p n ac) {r s : Nat} (hr : r < p) (hs : s < p) : ∀ (k t y : Nat), (t < 2000 → t < n) → (y = r ∨ y = s) → jr_up ac (r + s) k t y < 2000 → jr_up ac (r + s) k t y < n := by
  intro k
  induction k with
  | zero => intro t y ht hy hl; exact ht hl
  | succ k ih =>
    intro t y ht hy hl
    by_cases e : t < 2000
    · have eu : jr_up ac (r + s) (k + 1) t y = jr_up ac (r + s) k (ac t y) (r + s - y) := by
        show (if _ then _ else _) = _
        rw [if_pos e]
      rw [eu] at hl ⊢
      exact ih _ _ (h t y (ht e) (by omega)) (by omega) hl
    · have eu : jr_up ac (r + s) (k + 1) t y = t := by
        show (if _ then _ else _) = _
        rw [if_neg e]
      rw [eu] at hl
      exact absurd hl e
theorem jr_lt (h : pl_c p n ac) {r s m t : Nat} (hr : r < p) (hs : s < p) (ht : t < n) (hl : jr ac rg (r + s) m t s < 2000) : jr ac rg (r + s) m t s < n := by
  unfold jr at hl ⊢
  by_cases m0 : m = 0
  · rw [if_pos m0] at hl
    exact absurd hl (by decide)
  · rw [if_neg m0] at hl ⊢
    by_cases e : (jr_dn ac rg (r + s) (m - 1) t s).1 < 2000
    · rw [if_pos e] at hl ⊢
      obtain ⟨d1, d2⟩ := jr_dn_lt h hr hs (m - 1) t s ht (Or.inr rfl) e
      exact jr_up_lt h hr hs _ _ _ (fun _ => d1) d2 hl
    · rw [if_neg e] at hl
      exact absurd hl (by decide)
theorem pl_t_c (h : pl_t p n ac rg I) : pl_c p n ac := fun t s ht hs => ((h.2.2.2.2 t ht).2 s hs).2
/-- the tables after a join -/
theorem pl_jn (h : pl_t p n ac rg I) {f s c : Nat} (hf : f < 2000 → f < n) (hs : s < p) (hc : c < n) : pl_t p n (ac_jn ac f s c) rg (jn_I c s f I) := by
  unfold ac_jn jn_I
  by_cases e : f < 2000
  · rw [if_pos e, if_pos e]
    have fn := hf e
    obtain ⟨p8, n2, h8, h9, h5⟩ := h
    refine ⟨p8, n2, h8, h9, fun t ht => ⟨(h5 t ht).1, fun y hy => ?_⟩⟩
    unfold ac_j
    by_cases e1 : t = c ∧ y = s
    · rw [if_pos e1, e1.1, e1.2, ij_u_same, show pl_e f = nI f from if_pos e]
      exact ⟨rfl, fun _ => fn⟩
    · rw [if_neg e1, ij_u_other _ _ _ _ (by omega)]
      by_cases e2 : t = f ∧ y = s
      · rw [if_pos e2, e2.1, e2.2, ij_u_same, show pl_e c = nI c from if_pos (by omega)]
        exact ⟨rfl, fun _ => hc⟩
      · rw [if_neg e2, ij_u_other _ _ _ _ (by omega)]
        exact (h5 t ht).2 y hy
  · rw [if_neg e, if_neg e]; exact h
end NB1
