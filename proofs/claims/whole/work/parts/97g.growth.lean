/-! ===== growth: pure rows ===== -/
/-- a row divided in place by 1 + t + .., at place k, from j on, r turns -/
def gt_j (q k : Nat) : Nat → Nat → (Nat → Nat → Int64) → (Nat → Nat → Int64)
  | 0, _, J => J
  | r + 1, j, J => gt_j q k r (j + 1) (ij_u J q k (J q k - J q (k - j)))
/-- .. at the places from k on, r of them -/
def gt_k (q m : Nat) : Nat → Nat → (Nat → Nat → Int64) → (Nat → Nat → Int64)
  | 0, _, J => J
  | r + 1, k, J => gt_k q m r (k + 1) (gt_j q k (min m (k + 1) - 1) 1 J)
/-- a row written from k on, r places -/
def gt_w (q : Nat) (f : Nat → Int64) : Nat → Nat → (Nat → Nat → Int64) → (Nat → Nat → Int64)
  | 0, _, J => J
  | r + 1, k, J => gt_w q f r (k + 1) (ij_u J q k (f k))
/-- row s added to row q, from k on -/
def gt_a (q s : Nat) : Nat → Nat → (Nat → Nat → Int64) → (Nat → Nat → Int64)
  | 0, _, J => J
  | r + 1, k, J => gt_a q s r (k + 1) (ij_u J q k (J q k + J s k))
section GT
variable {α : Type} {q q' s k m : Nat}
theorem gt_j_ne (h : q' ≠ q) : ∀ (r j : Nat) (J : Nat → Nat → Int64), gt_j q k r j J q' = J q' := by
  intro r
  induction r with
  | zero => intros; rfl
  | succ r ih => intro j J; exact (ih (j + 1) _).trans (ij_u_ne h)
theorem gt_k_ne (h : q' ≠ q) : ∀ (r k : Nat) (J : Nat → Nat → Int64), gt_k q m r k J q' = J q' := by
  intro r
  induction r with
  | zero => intros; rfl
  | succ r ih => intro k J; exact (ih (k + 1) _).trans (gt_j_ne h _ _ _)
theorem gt_w_ne {f : Nat → Int64} (h : q' ≠ q) : ∀ (r k : Nat) (J : Nat → Nat → Int64), gt_w q f r k J q' = J q' := by
  intro r
  induction r with
  | zero => intros; rfl
  | succ r ih => intro k J; exact (ih (k + 1) _).trans (ij_u_ne h)
theorem gt_a_ne (h : q' ≠ q) : ∀ (r k : Nat) (J : Nat → Nat → Int64), gt_a q s r k J q' = J q' := by
  intro r
  induction r with
  | zero => intros; rfl
  | succ r ih => intro k J; exact (ih (k + 1) _).trans (ij_u_ne h)
/-- rows that agree up to 60 -/
def ge (f g : Nat → Int64) : Prop := ∀ k, k < 61 → f k = g k
theorem ge_refl (f : Nat → Int64) : ge f f := fun _ _ => rfl
theorem ge_trans {f g h : Nat → Int64} (a : ge f g) (b : ge g h) : ge f h := fun k hk => (a k hk).trans (b k hk)
theorem ge_symm {f g : Nat → Int64} (a : ge f g) : ge g f := fun k hk => (a k hk).symm
theorem ge_u {J J' : Nat → Nat → Int64} {q' k : Nat} {v v' : Int64} (h : ge (J q) (J' q')) (hv : v = v') : ge (ij_u J q k v q) (ij_u J' q' k v' q') := by
  intro i hi
  by_cases e : i = k
  · subst e
    rw [ij_u_same, ij_u_same, hv]
  · rw [ij_u_other _ _ _ _ e, ij_u_other _ _ _ _ e]
    exact h i hi
theorem gt_j_row {q' : Nat} (hk : k < 61) : ∀ (r j : Nat) (J J' : Nat → Nat → Int64), ge (J q) (J' q') → ge (gt_j q k r j J q) (gt_j q' k r j J' q') := by
  intro r
  induction r with
  | zero => intro j J J' h; exact h
  | succ r ih =>
    intro j J J' h
    refine ih (j + 1) _ _ (ge_u h ?_)
    rw [h k hk, h (k - j) (by omega)]
theorem gt_k_row {q' : Nat} : ∀ (r k : Nat) (J J' : Nat → Nat → Int64), k + r ≤ 61 → ge (J q) (J' q') → ge (gt_k q m r k J q) (gt_k q' m r k J' q') := by
  intro r
  induction r with
  | zero => intro k J J' _ h; exact h
  | succ r ih => intro k J J' hk h; exact ih (k + 1) _ _ (by omega) (gt_j_row (by omega) _ _ _ _ h)
theorem gt_w_at {f : Nat → Int64} : ∀ (r k : Nat) (J : Nat → Nat → Int64) (i : Nat), gt_w q f r k J q i = if k ≤ i ∧ i < k + r then f i else J q i := by
  intro r
  induction r with
  | zero => intro k J i; rw [if_neg (by omega)]; rfl
  | succ r ih =>
    intro k J i
    show gt_w q f r (k + 1) (ij_u J q k (f k)) q i = _
    rw [ih (k + 1)]
    by_cases e : i = k
    · subst e
      rw [if_neg (by omega), if_pos (by omega), ij_u_same]
    · rw [ij_u_other _ _ _ _ e]
      by_cases h : k + 1 ≤ i ∧ i < k + 1 + r
      · rw [if_pos h, if_pos (by omega)]
      · rw [if_neg h, if_neg (by omega)]
theorem gt_a_at (hs : s ≠ q) : ∀ (r k : Nat) (J : Nat → Nat → Int64) (i : Nat), gt_a q s r k J q i = if k ≤ i ∧ i < k + r then J q i + J s i else J q i := by
  intro r
  induction r with
  | zero => intro k J i; rw [if_neg (by omega)]; rfl
  | succ r ih =>
    intro k J i
    show gt_a q s r (k + 1) (ij_u J q k (J q k + J s k)) q i = _
    rw [ih (k + 1), ij_u_ne hs]
    by_cases e : i = k
    · subst e
      rw [if_neg (by omega), if_pos (by omega), ij_u_same]
    · rw [ij_u_other _ _ _ _ e]
      by_cases h : k + 1 ≤ i ∧ i < k + 1 + r
      · rw [if_pos h, if_pos (by omega)]
      · rw [if_neg h, if_neg (by omega)]
end GT
/-- a table of one row -/
abbrev g1 (f : Nat → Int64) : Nat → Nat → Int64 := fun _ => f
/-- t to the power of m, by 1 / (1 + t), by 1 / (1 + .. ) -/
def gp_part (m : Nat) : Nat → Int64 := gt_k 0 m 61 0 (g1 (gt_k 0 2 61 0 (g1 (fun k => if k = m then 1 else 0)) 0)) 0
def gp_add (f g : Nat → Int64) : Nat → Int64 := fun k => f k + g k
/-- the series' divisor behind the first n corners -/
def gp_D (p : Nat) (cr : Nat → Nat) : Nat → (Nat → Int64)
  | 0 => fun k => if k = 0 then 1 else if k % 2 = 1 then (-(nI p)).toInt64 else (nI p).toInt64
  | n + 1 => if cr n = 0 then gp_D p cr n else gp_add (gp_D p cr n) (gp_part (cr n))
/-- what is left of a term: j from j on, r of them -/
def gp_acc (D t : Nat → Int64) (k : Nat) : Nat → Nat → Int64 → Int64
  | 0, _, a => a
  | r + 1, j, a => gp_acc D t k r (j + 1) (a - D j * t (k - j))
/-- the terms up to n -/
def gp_t (D : Nat → Int64) : Nat → (Nat → Int64)
  | 0 => fun _ => 1
  | k + 1 => fun i => if i = k + 1 then gp_acc D (gp_t D k) (k + 1) (k + 1) 1 0 else gp_t D k i
theorem gp_t_le {D : Nat → Int64} : ∀ {n k : Nat}, k ≤ n → gp_t D n k = gp_t D k k := by
  intro n
  induction n with
  | zero => intro k h; have : k = 0 := by omega
            subst this; rfl
  | succ n ih =>
    intro k h
    by_cases e : k = n + 1
    · subst e; rfl
    · show (if k = n + 1 then _ else gp_t D n k) = _
      rw [if_neg e]
      exact ih (by omega)
theorem gp_acc_congr {D D' t t' : Nat → Int64} {k : Nat} (hk : k < 61) (hD : ge D D') (ht : ∀ i, i < k → t i = t' i) : ∀ (r j : Nat) (a : Int64), 1 ≤ j → j + r ≤ k + 1 → gp_acc D t k r j a = gp_acc D' t' k r j a := by
  intro r
  induction r with
  | zero => intros; rfl
  | succ r ih =>
    intro j a hj h
    show gp_acc D t k r (j + 1) (a - D j * t (k - j)) = gp_acc D' t' k r (j + 1) (a - D' j * t' (k - j))
    rw [hD j (by omega), ht (k - j) (by omega)]
    exact ih (j + 1) _ (by omega) (by omega)
theorem gp_t_congr {D D' : Nat → Int64} (hD : ge D D') : ∀ (n : Nat), n < 61 → ∀ k, k ≤ n → gp_t D n k = gp_t D' n k := by
  intro n
  induction n with
  | zero => intro _ k _; rfl
  | succ n ih =>
    intro hn k hk
    show (if k = n + 1 then gp_acc D (gp_t D n) (n + 1) (n + 1) 1 0 else gp_t D n k) = (if k = n + 1 then gp_acc D' (gp_t D' n) (n + 1) (n + 1) 1 0 else gp_t D' n k)
    by_cases e : k = n + 1
    · rw [if_pos e, if_pos e]
      exact gp_acc_congr hn hD (fun i hi => ih (by omega) i (by omega)) _ _ _ (by omega) (by omega)
    · rw [if_neg e, if_neg e]
      exact ih (by omega) k (by omega)
/-- the K terms that are known -/
def gp_K (D : Nat → Int64) (K : Nat) : Prop := 1 ≤ K ∧ K ≤ 61 ∧ (∀ k, k < K → lg_cmp (gp_t D k k) 1000000000000000 ≤ 0) ∧ (K < 61 → ¬ lg_cmp (gp_t D K K) 1000000000000000 ≤ 0)
/-- what the class keeps of it -/
def lr_grow (p : Nat) (cr : Nat → Nat) (I : Nat → Nat → Int32) (J : Nat → Nat → Int64) : Prop := ∃ K, I 15 3 = nI K ∧ gp_K (gp_D p cr p) K ∧ ∀ k, k < K → J 16 k = gp_t (gp_D p cr p) k k
/-- part of a table's row: divided by 1 + t and 1 + t + .. -/
theorem gp_part_of {q m : Nat} {J : Nat → Nat → Int64} (h : ge (J q) (fun k => if k = m then 1 else 0)) : ge (gt_k q m 61 0 (gt_k q 2 61 0 J) q) (gp_part m) :=
  gt_k_row 61 0 _ _ (by omega) (gt_k_row (q' := 0) 61 0 J (g1 (fun k => if k = m then 1 else 0)) (by omega) h)
/-- the first part: sides by t by 1 / (1 + t) -/
theorem gp_two : ∀ (r k : Nat) (s : Int64) (J : Nat → Nat → Int64) (q : Nat), k + r = 61 → (∀ i, i < k → J q i = if i = 0 then 0 else if i % 2 = 1 then s else -s) → (∀ i, k ≤ i → i < 61 → J q i = if i = 1 then s else 0) → ge (gt_k q 2 r k J q) (fun i => if i = 0 then 0 else if i % 2 = 1 then s else -s) := by
  intro r
  induction r with
  | zero => intro k s J q hk h1 _ i hi; exact h1 i (by omega)
  | succ r ih =>
    intro k s J q hk h1 h2
    refine ih (k + 1) s _ q (by omega) ?_ ?_
    · intro i hi
      by_cases hk0 : k = 0
      · subst hk0
        have : i = 0 := by omega
        subst this
        exact h2 0 (by omega) (by omega)
      · rw [show min 2 (k + 1) - 1 = 1 by omega]
        show ij_u J q k (J q k - J q (k - 1)) q i = _
        by_cases e : i = k
        · subst e
          rw [ij_u_same, h2 i (by omega) (by omega), h1 (i - 1) (by omega)]
          by_cases e1 : i = 1
          · subst e1
            simp
          · rw [if_neg e1, if_neg hk0, if_neg (show ¬ i - 1 = 0 by omega)]
            by_cases ho : i % 2 = 1
            · rw [if_pos ho, if_neg (show ¬ (i - 1) % 2 = 1 by omega)]
              simp
            · rw [if_neg ho, if_pos (show (i - 1) % 2 = 1 by omega)]
              simp
        · rw [ij_u_other _ _ _ _ e]
          exact h1 i (by omega)
    · intro i h3 h4
      by_cases hk0 : k = 0
      · subst hk0
        exact h2 i (by omega) h4
      · rw [show min 2 (k + 1) - 1 = 1 by omega]
        show ij_u J q k (J q k - J q (k - 1)) q i = _
        rw [ij_u_other _ _ _ _ (by omega)]
        exact h2 i (by omega) h4
