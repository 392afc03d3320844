/-! ===== round the corners of the plane under way ===== -/
/-- up from z, over sides a and b in turn: k steps lead to x -/
def up (ac : Nat → Nat → Nat) (a b z : Nat) : Nat → Nat → Prop
  | 0, x => x = z
  | k + 1, x => ∃ x', up ac a b z k x' ∧ x' < x ∧ x < 2000 ∧ ac x (al a b k) = x' ∧ ac x' (al a b k) = x
/-- where a tile lies round its corner between a and b: at the bottom, on one way up, or at the top -/
def res (ac : Nat → Nat → Nat) (x a b m : Nat) : Prop := ∃ z k, ¬ ac z a < z ∧ ¬ ac z b < z ∧ (k = 0 ∧ x = z ∨ (0 < k ∧ (m = 0 ∨ k < m) ∧ (up ac a b z k x ∧ ¬ ac x (al a b k) < x ∨ up ac b a z k x ∧ ¬ ac x (al b a k) < x)) ∨ (0 < m ∧ k = m ∧ up ac a b z m x ∧ up ac b a z m x))
theorem res_symm {ac : Nat → Nat → Nat} {x a b m : Nat} (h : res ac x a b m) : res ac x b a m := by
  obtain ⟨z, k, h1, h2, h3⟩ := h
  refine ⟨z, k, h2, h1, ?_⟩
  rcases h3 with h | ⟨h4, h5, h6⟩ | ⟨h4, h5, h6, h7⟩
  · exact Or.inl h
  · exact Or.inr (Or.inl ⟨h4, h5, h6.symm⟩)
  · exact Or.inr (Or.inr ⟨h4, h5, h7, h6⟩)
theorem al_s (a b k : Nat) : al a b (k + 1) = al b a k := by
  unfold al
  by_cases e : k % 2 = 0
  · rw [if_pos e, if_neg (by omega)]
  · rw [if_neg e, if_pos (by omega)]
theorem al_or (a b k : Nat) : al a b k = a ∧ al b a k = b ∨ al a b k = b ∧ al b a k = a := by
  unfold al
  by_cases e : k % 2 = 0
  · rw [if_pos e, if_pos e]; exact Or.inl ⟨rfl, rfl⟩
  · rw [if_neg e, if_neg e]; exact Or.inr ⟨rfl, rfl⟩
theorem al_ev (a b i j : Nat) (h : i % 2 = 0) : al a b (i + j) = al a b j := by
  unfold al
  by_cases e : j % 2 = 0
  · rw [if_pos e, if_pos (by omega)]
  · rw [if_neg e, if_neg (by omega)]
theorem al_od (a b i j : Nat) (h : i % 2 = 1) : al a b (i + j) = al b a j := by
  unfold al
  by_cases e : j % 2 = 0
  · rw [if_pos e, if_neg (by omega)]
  · rw [if_neg e, if_pos (by omega)]
theorem al_ne {a b : Nat} (h : a ≠ b) (k : Nat) : al a b k ≠ al b a k := by
  rcases al_or a b k with ⟨h1, h2⟩ | ⟨h1, h2⟩
  · rw [h1, h2]; exact h
  · rw [h1, h2]; exact fun z => h z.symm
theorem al_lt {p a b : Nat} (ha : a < p) (hb : b < p) (k : Nat) : al a b k < p := by
  rcases al_or a b k with ⟨h1, _⟩ | ⟨h1, _⟩
  · rw [h1]; exact ha
  · rw [h1]; exact hb
theorem al_w (a b k : Nat) : a + b - al a b k = al b a k := by
  rcases al_or a b k with ⟨h1, h2⟩ | ⟨h1, h2⟩
  · rw [h1, h2]; omega
  · rw [h1, h2]; omega
/-- if letters agree at one place they agree at all -/
theorem al_ext {a b a' b' i j : Nat} (hab : a ≠ b) (hs : a' = a ∧ b' = b ∨ a' = b ∧ b' = a) (h : al a b j = al a' b' (i + j)) : ∀ j', al a b j' = al a' b' (i + j') := by
  intro j'
  rcases hs with ⟨e1, e2⟩ | ⟨e1, e2⟩
  · subst e1; subst e2
    by_cases e : i % 2 = 0
    · rw [al_ev _ _ _ _ e]
    · rw [al_od _ _ _ _ (by omega)] at h
      exact absurd h (al_ne hab j)
  · subst e1; subst e2
    by_cases e : i % 2 = 0
    · rw [al_ev _ _ _ _ e] at h
      exact absurd h (al_ne hab j)
    · rw [al_od _ _ _ _ (by omega)]
section UP1
variable {ac : Nat → Nat → Nat} {a b z : Nat}
theorem up_dw {k x : Nat} (h : up ac a b z (k + 1) x) : ac x (al a b k) < x := by
  obtain ⟨x', _, h2, _, h4, _⟩ := h
  rw [h4]; exact h2
theorem up_le : ∀ {k x : Nat}, up ac a b z k x → z + k ≤ x := by
  intro k
  induction k with
  | zero => intro x h; rw [show x = z from h]; exact Nat.le_refl _
  | succ k ih =>
    intro x h
    obtain ⟨x', h1, h2, _⟩ := h
    have := ih h1
    omega
theorem up_fun : ∀ {k x x' : Nat}, up ac a b z k x → up ac a b z k x' → x = x' := by
  intro k
  induction k with
  | zero => intro x x' h h'; exact (show x = z from h).trans (show x' = z from h').symm
  | succ k ih =>
    intro x x' h h'
    obtain ⟨y, h1, _, _, _, h5⟩ := h
    obtain ⟨y', k1, _, _, _, k5⟩ := h'
    rw [← h5, ← k5, ih h1 k1]
/-- the shorter way ends where the longer goes on -/
theorem up_peel {a' b' z' i : Nat} (hl : ∀ j', al a b j' = al a' b' (i + j')) : ∀ {j x : Nat}, up ac a b z j x → up ac a' b' z' (i + j) x → up ac a' b' z' i z := by
  intro j
  induction j with
  | zero => intro x h h'; rw [← show x = z from h]; exact h'
  | succ j ih =>
    intro x h h'
    obtain ⟨y, h1, _, _, h4, _⟩ := h
    obtain ⟨y', k1, _, _, k4, _⟩ := h'
    have k4' : ac x (al a' b' (i + j)) = y' := k4
    rw [← hl j, h4] at k4'
    have k1' : up ac a' b' z' (i + j) y' := k1
    rw [← k4'] at k1'
    exact ih h1 k1'
/-- at the foot of a way nothing goes down -/
theorem up_foot {a' b' z' i : Nat} (ha : ¬ ac z a < z) (hb : ¬ ac z b < z) (hab : a ≠ b) (hs : a' = a ∧ b' = b ∨ a' = b ∧ b' = a) {j x : Nat} (h : up ac a b z (j + 1) x) (h' : up ac a' b' z' (i + (j + 1)) x) (hl : al a b j = al a' b' (i + j)) : i = 0 := by
  have q := up_peel (al_ext hab hs hl) h h'
  cases i with
  | zero => rfl
  | succ i =>
    have w := up_dw q
    rcases hs with ⟨e1, e2⟩ | ⟨e1, e2⟩ <;> subst e1 <;> subst e2 <;> rcases al_or a' b' i with ⟨g, _⟩ | ⟨g, _⟩ <;> rw [g] at w
    · exact absurd w ha
    · exact absurd w hb
    · exact absurd w hb
    · exact absurd w ha
/-- a way as a row of tiles -/
theorem up_row : ∀ {k x : Nat}, up ac a b z k x → ∃ q : Nat → Nat, q 0 = z ∧ q k = x ∧ ∀ i, i < k → q i < q (i + 1) ∧ q (i + 1) < 2000 ∧ q (i + 1) ≤ x ∧ ac (q i) (al a b i) = q (i + 1) := by
  intro k
  induction k with
  | zero => intro x h; exact ⟨fun _ => z, rfl, (show x = z from h).symm, fun i hi => absurd hi (by omega)⟩
  | succ k ih =>
    intro x h
    obtain ⟨y, h1, h2, h3, _, h5⟩ := h
    obtain ⟨q, q1, q2, q3⟩ := ih h1
    refine ⟨fun i => if i ≤ k then q i else x, ?_, ?_, fun i hi => ?_⟩
    · show (if 0 ≤ k then q 0 else x) = z
      rw [if_pos (by omega)]; exact q1
    · show (if k + 1 ≤ k then q (k + 1) else x) = x
      rw [if_neg (by omega)]
    · show (if i ≤ k then q i else x) < (if i + 1 ≤ k then q (i + 1) else x) ∧ (if i + 1 ≤ k then q (i + 1) else x) < 2000 ∧ (if i + 1 ≤ k then q (i + 1) else x) ≤ x ∧ ac (if i ≤ k then q i else x) (al a b i) = (if i + 1 ≤ k then q (i + 1) else x)
      rw [if_pos (show i ≤ k by omega)]
      by_cases e : i + 1 ≤ k
      · rw [if_pos e]
        obtain ⟨g1, g2, g3, g4⟩ := q3 i (by omega)
        exact ⟨g1, g2, by omega, g4⟩
      · rw [if_neg e, show i = k by omega, q2]
        exact ⟨h2, h3, Nat.le_refl _, h5⟩
/-- ways stay where neighbours stay -/
theorem up_mono {ac' : Nat → Nat → Nat} {p n : Nat} (ha : a < p) (hb : b < p) (h : ∀ x y, x < n → y < p → ac x y < 2000 → ac' x y = ac x y) : ∀ {k x : Nat}, x < n → up ac a b z k x → up ac' a b z k x := by
  intro k
  induction k with
  | zero => intro x _ h; exact h
  | succ k ih =>
    intro x hx hu
    obtain ⟨y, h1, h2, h3, h4, h5⟩ := hu
    refine ⟨y, ih (by omega) h1, h2, h3, ?_, ?_⟩
    · rw [h x _ hx (al_lt ha hb k) (by omega)]; exact h4
    · rw [h y _ (by omega) (al_lt ha hb k) (by omega)]; exact h5
end UP1
