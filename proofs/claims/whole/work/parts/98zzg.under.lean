/-! ===== laying a board: both under way, what is pure of it ===== -/
/-- how the plane under way looks: neighbours are neighbours both ways, in rings next to each other; rings come in order -/
def pg_g (p n : Nat) (ac : Nat → Nat → Nat) (rg : Nat → Nat) : Prop := (∀ x y, x < n → y < p → ac x y < 2000 → ac x y < n ∧ ac (ac x y) y = x ∧ (rg (ac x y) = rg x + 1 ∨ rg x = rg (ac x y) + 1)) ∧ ∀ x u, x ≤ u → u < n → rg x ≤ rg u
/-- neighbours that the reference has found when it comes to side s of tile t -/
def pd (ac : Nat → Nat → Nat) (t s x y : Nat) : Nat := if ac x y < 2000 ∧ (x < t ∨ ac x y < t ∨ ((x = t ∨ ac x y = t) ∧ y < s)) then ac x y else 2000
section PD1
variable {p n t s : Nat} {ac : Nat → Nat → Nat} {rg : Nat → Nat} {cs : Nat → Nat}
theorem pg_up (h : pg_g p n ac rg) {x y : Nat} (hx : x < n) (hy : y < p) (ha : ac x y < 2000) : (x < ac x y ↔ rg (ac x y) = rg x + 1) ∧ (ac x y < x ↔ rg x = rg (ac x y) + 1) := by
  obtain ⟨a1, _, a3⟩ := h.1 x y hx hy ha
  have b1 : ac x y ≤ x → rg (ac x y) ≤ rg x := fun z => h.2 _ _ z hx
  have b2 : x ≤ ac x y → rg x ≤ rg (ac x y) := fun z => h.2 _ _ z a1
  omega
theorem pd_le {x y : Nat} : pd ac t s x y < 2000 → pd ac t s x y = ac x y := by
  unfold pd
  intro z
  by_cases e : ac x y < 2000 ∧ (x < t ∨ ac x y < t ∨ ((x = t ∨ ac x y = t) ∧ y < s))
  · rw [if_pos e]
  · rw [if_neg e] at z
    omega
theorem pd_self (ha : ¬ ac t s < t) : pd ac t s t s = 2000 := by
  unfold pd
  rw [if_neg (by omega)]
theorem pd_done (h : ac t s < t) (ht : t < 2000) : pd ac t s t s = ac t s := by
  unfold pd
  rw [if_pos (by omega)]
theorem pd_skip (h : pg_g p n ac rg) (ht : t < n) (hs : s < p) (hu : ac t s < t) {x y : Nat} (hx : x < n) (hy : y < p) : pd ac t (s + 1) x y = pd ac t s x y := by
  unfold pd
  by_cases e : ac x y < 2000 ∧ (x < t ∨ ac x y < t ∨ ((x = t ∨ ac x y = t) ∧ y < s))
  · rw [if_pos e, if_pos (by omega)]
  · rw [if_neg e, if_neg]
    intro z
    have ey : y = s := by omega
    subst ey
    obtain ⟨z1, z2⟩ := z
    obtain ⟨a1, a2, _⟩ := h.1 x y hx hy z1
    have : x = t ∨ ac x y = t := by omega
    rcases this with h1 | h1
    · subst h1
      omega
    · rw [h1] at a2
      omega
theorem pd_old (h : pg_g p n ac rg) (ht : t < n) (hs : s < p) (hu : t < ac t s) (hu2 : ac t s < 2000) {x y : Nat} (hx : x < n) (hy : y < p) : pd ac t (s + 1) x y = if x = t ∧ y = s then ac t s else if x = ac t s ∧ y = s then t else pd ac t s x y := by
  obtain ⟨b1, b2, _⟩ := h.1 t s ht hs hu2
  by_cases e1 : x = t ∧ y = s
  · rw [if_pos e1, e1.1, e1.2]
    unfold pd
    rw [if_pos (by omega)]
  · rw [if_neg e1]
    by_cases e2 : x = ac t s ∧ y = s
    · rw [if_pos e2, e2.1, e2.2]
      unfold pd
      rw [b2, if_pos (by omega)]
    · rw [if_neg e2]
      unfold pd
      by_cases e : ac x y < 2000 ∧ (x < t ∨ ac x y < t ∨ ((x = t ∨ ac x y = t) ∧ y < s))
      · rw [if_pos e, if_pos (by omega)]
      · rw [if_neg e, if_neg]
        intro z
        have ey : y = s := by omega
        subst ey
        obtain ⟨z1, z2⟩ := z
        obtain ⟨a1, a2, _⟩ := h.1 x y hx hy z1
        have : x = t ∨ ac x y = t := by omega
        rcases this with h1 | h1
        · exact e1 ⟨h1, rfl⟩
        · rw [h1] at a2
          exact e2 ⟨a2.symm, rfl⟩
/-- the next tile -/
theorem pd_next {x y : Nat} (hy : y < p) : pd ac t p x y = pd ac (t + 1) 0 x y := by
  unfold pd
  by_cases e : ac x y < 2000 ∧ (x < t ∨ ac x y < t ∨ ((x = t ∨ ac x y = t) ∧ y < p))
  · rw [if_pos e, if_pos (by omega)]
  · rw [if_neg e, if_neg (by omega)]
/-- a tile to be joined: it lies ahead and has no neighbour there -/
def pg_f (ac : Nat → Nat → Nat) (n t f r : Nat) : Prop := f < 2000 → t < f ∧ f < n ∧ ¬ ac f r < 2000
theorem nb_a4_n (ht : t < n) (hf1 : pg_f ac n t (nb_f1 p cs ac rg n t s) ((s + 1) % p)) (hf2 : pg_f ac n t (nb_f2 p cs ac rg n t s) ((s + p - 1) % p)) (hn : n < 2000) {y : Nat} : nb_a4 p cs ac rg n t s n y = if nb_f2 p cs ac rg n t s < 2000 ∧ y = (s + p - 1) % p then nb_f2 p cs ac rg n t s else if nb_f1 p cs ac rg n t s < 2000 ∧ y = (s + 1) % p then nb_f1 p cs ac rg n t s else if y = s then t else 2000 := by
  have a2 : nb_a2 ac n t s n y = if y = s then t else 2000 := by
    unfold nb_a2 ac_jn ac_j
    rw [if_pos (show t < 2000 by omega)]
    show (if n = n ∧ y = s then t else if n = t ∧ y = s then n else if n = n then 2000 else ac n y) = _
    by_cases e : y = s
    · rw [if_pos ⟨rfl, e⟩, if_pos e]
    · rw [if_neg (fun z => e z.2), if_neg (fun z => e z.2), if_neg e, if_pos rfl]
  have a3 : nb_a3 p cs ac rg n t s n y = if nb_f1 p cs ac rg n t s < 2000 ∧ y = (s + 1) % p then nb_f1 p cs ac rg n t s else if y = s then t else 2000 := by
    unfold nb_a3 ac_jn ac_j
    by_cases f : nb_f1 p cs ac rg n t s < 2000
    · rw [if_pos f]
      obtain ⟨_, f2, _⟩ := hf1 f
      show (if n = n ∧ y = (s + 1) % p then _ else if n = _ ∧ _ then n else nb_a2 ac n t s n y) = _
      by_cases e : y = (s + 1) % p
      · rw [if_pos ⟨rfl, e⟩, if_pos ⟨f, e⟩]
      · rw [if_neg (fun z => e z.2), if_neg (fun z => e z.2), if_neg (fun z => e z.2), a2]
    · rw [if_neg f, if_neg (fun z => f z.1), a2]
  unfold nb_a4 ac_jn ac_j
  by_cases f : nb_f2 p cs ac rg n t s < 2000
  · rw [if_pos f]
    show (if n = n ∧ y = (s + p - 1) % p then _ else if n = _ ∧ _ then n else nb_a3 p cs ac rg n t s n y) = _
    by_cases e : y = (s + p - 1) % p
    · rw [if_pos ⟨rfl, e⟩, if_pos ⟨f, e⟩]
    · rw [if_neg (fun z => e z.2), if_neg (fun z => e z.2), if_neg (fun z => e z.2), a3]
  · rw [if_neg f, if_neg (fun z => f z.1), a3]
theorem nb_a4_x (ht : t < n) (hn : n < 2000) {x y : Nat} (hx : x < n) : nb_a4 p cs ac rg n t s x y = if (nb_f2 p cs ac rg n t s < 2000 ∧ x = nb_f2 p cs ac rg n t s ∧ y = (s + p - 1) % p) ∨ (nb_f1 p cs ac rg n t s < 2000 ∧ x = nb_f1 p cs ac rg n t s ∧ y = (s + 1) % p) ∨ (x = t ∧ y = s) then n else ac x y := by
  have a2 : nb_a2 ac n t s x y = if x = t ∧ y = s then n else ac x y := by
    unfold nb_a2 ac_jn ac_j
    rw [if_pos (show t < 2000 by omega)]
    show (if x = n ∧ y = s then t else if x = t ∧ y = s then n else if x = n then 2000 else ac x y) = _
    rw [if_neg (by omega), if_neg (show ¬ x = n by omega)]
  have a3 : nb_a3 p cs ac rg n t s x y = if (nb_f1 p cs ac rg n t s < 2000 ∧ x = nb_f1 p cs ac rg n t s ∧ y = (s + 1) % p) ∨ (x = t ∧ y = s) then n else ac x y := by
    unfold nb_a3 ac_jn ac_j
    by_cases f : nb_f1 p cs ac rg n t s < 2000
    · rw [if_pos f]
      show (if x = n ∧ y = (s + 1) % p then _ else if x = _ ∧ y = _ then n else nb_a2 ac n t s x y) = _
      rw [if_neg (fun z => absurd z.1 (by omega)), a2]
      by_cases e : x = nb_f1 p cs ac rg n t s ∧ y = (s + 1) % p
      · rw [if_pos e, if_pos (Or.inl ⟨f, e⟩)]
      · rw [if_neg e]
        by_cases e2 : x = t ∧ y = s
        · rw [if_pos e2, if_pos (Or.inr e2)]
        · rw [if_neg e2, if_neg (fun z => z.elim (fun z => e z.2) e2)]
    · rw [if_neg f, a2]
      by_cases e2 : x = t ∧ y = s
      · rw [if_pos e2, if_pos (Or.inr e2)]
      · rw [if_neg e2, if_neg (fun z => z.elim (fun z => f z.1) e2)]
  unfold nb_a4 ac_jn ac_j
  by_cases f : nb_f2 p cs ac rg n t s < 2000
  · rw [if_pos f]
    show (if x = n ∧ y = (s + p - 1) % p then _ else if x = _ ∧ y = _ then n else nb_a3 p cs ac rg n t s x y) = _
    rw [if_neg (fun z => absurd z.1 (by omega)), a3]
    by_cases e : x = nb_f2 p cs ac rg n t s ∧ y = (s + p - 1) % p
    · rw [if_pos e, if_pos (Or.inl ⟨f, e⟩)]
    · rw [if_neg e]
      by_cases e2 : (nb_f1 p cs ac rg n t s < 2000 ∧ x = nb_f1 p cs ac rg n t s ∧ y = (s + 1) % p) ∨ (x = t ∧ y = s)
      · rw [if_pos e2, if_pos (Or.inr e2)]
      · rw [if_neg e2, if_neg (fun z => z.elim (fun z => e z.2) e2)]
  · rw [if_neg f, a3]
    by_cases e2 : (nb_f1 p cs ac rg n t s < 2000 ∧ x = nb_f1 p cs ac rg n t s ∧ y = (s + 1) % p) ∨ (x = t ∧ y = s)
    · rw [if_pos e2, if_pos (Or.inr e2)]
    · rw [if_neg e2, if_neg (fun z => z.elim (fun z => f z.1) e2)]
theorem nb_sides (hp3 : 3 ≤ p) (hs : s < p) : (s + 1) % p ≠ s ∧ (s + p - 1) % p ≠ s ∧ (s + 1) % p ≠ (s + p - 1) % p ∧ (s + 1) % p < p ∧ (s + p - 1) % p < p := by
  have e1 : (s + 1) % p = if s + 1 = p then 0 else s + 1 := by
    by_cases e : s + 1 = p
    · rw [if_pos e, e, Nat.mod_self]
    · rw [if_neg e]; exact Nat.mod_eq_of_lt (by omega)
  have e2 : (s + p - 1) % p = if s = 0 then p - 1 else s - 1 := by
    by_cases e : s = 0
    · rw [if_pos e, e, Nat.zero_add]; exact Nat.mod_eq_of_lt (by omega)
    · rw [if_neg e, show s + p - 1 = (s - 1) + p from by omega, Nat.add_mod_right]; exact Nat.mod_eq_of_lt (by omega)
  rw [e1, e2]
  by_cases a : s + 1 = p
  · by_cases b : s = 0
    · omega
    · rw [if_pos a, if_neg b]; omega
  · by_cases b : s = 0
    · rw [if_neg a, if_pos b]; omega
    · rw [if_neg a, if_neg b]; omega
theorem pd_new (h : pg_g p n ac rg) (hp3 : 3 ≤ p) (ht : t < n) (hn : n < 2000) (hs : s < p) (ha : ¬ ac t s < 2000) (hf1 : pg_f ac n t (nb_f1 p cs ac rg n t s) ((s + 1) % p)) (hf2 : pg_f ac n t (nb_f2 p cs ac rg n t s) ((s + p - 1) % p)) {x y : Nat} (hx : x < n + 1) (hy : y < p) : pd (nb_a4 p cs ac rg n t s) t (s + 1) x y = if x = n then (if y = s then t else 2000) else if x = t ∧ y = s then n else pd ac t s x y := by
  obtain ⟨o1, o2, _⟩ := nb_sides hp3 hs
  by_cases e : x = n
  · subst e
    rw [if_pos rfl]
    unfold pd
    rw [nb_a4_n ht hf1 hf2 hn]
    by_cases c2 : nb_f2 p cs ac rg x t s < 2000 ∧ y = (s + p - 1) % p
    · obtain ⟨b1, b2, _⟩ := hf2 c2.1
      rw [if_pos c2, if_neg (by omega), if_neg (by omega)]
    · rw [if_neg c2]
      by_cases c1 : nb_f1 p cs ac rg x t s < 2000 ∧ y = (s + 1) % p
      · obtain ⟨b1, b2, _⟩ := hf1 c1.1
        rw [if_pos c1, if_neg (by omega), if_neg (by omega)]
      · rw [if_neg c1]
        by_cases c0 : y = s
        · rw [if_pos c0, if_pos (by omega)]
        · rw [if_neg c0, if_neg (by omega)]
  · rw [if_neg e]
    unfold pd
    rw [nb_a4_x ht hn (show x < n by omega)]
    by_cases c0 : x = t ∧ y = s
    · rw [if_pos c0, if_pos (Or.inr (Or.inr c0)), if_pos (by omega)]
    · rw [if_neg c0]
      by_cases c : (nb_f2 p cs ac rg n t s < 2000 ∧ x = nb_f2 p cs ac rg n t s ∧ y = (s + p - 1) % p) ∨ (nb_f1 p cs ac rg n t s < 2000 ∧ x = nb_f1 p cs ac rg n t s ∧ y = (s + 1) % p) ∨ (x = t ∧ y = s)
      · rw [if_pos c]
        have w : t < x ∧ ¬ ac x y < 2000 := by
          rcases c with c | c | c
          · obtain ⟨b1, b2, b3⟩ := hf2 c.1
            rw [c.2.1, c.2.2]; exact ⟨b1, b3⟩
          · obtain ⟨b1, b2, b3⟩ := hf1 c.1
            rw [c.2.1, c.2.2]; exact ⟨b1, b3⟩
          · exact absurd c c0
        rw [if_neg (by omega), if_neg (by omega)]
      · rw [if_neg c]
        by_cases f : ac x y < 2000 ∧ (x < t ∨ ac x y < t ∨ ((x = t ∨ ac x y = t) ∧ y < s))
        · rw [if_pos f, if_pos (by omega)]
        · rw [if_neg f, if_neg]
          intro z
          have ey : y = s := by omega
          subst ey
          obtain ⟨z1, z2⟩ := z
          obtain ⟨a1, a2, _⟩ := h.1 x y (by omega) hy z1
          have : x = t ∨ ac x y = t := by omega
          rcases this with h1 | h1
          · exact c0 ⟨h1, rfl⟩
          · rw [h1] at a2
            omega
end PD1
/-! sums of ways -/
def ws (g : Nat → Int64) : Nat → Int64
  | 0 => 0
  | k + 1 => ws g k + g k
theorem ws_congr {g g' : Nat → Int64} : ∀ {p : Nat}, (∀ k, k < p → g' k = g k) → ws g' p = ws g p := by
  intro p
  induction p with
  | zero => intro _; rfl
  | succ p ih => intro h; show ws g' p + g' p = ws g p + g p; rw [ih (fun k hk => h k (by omega)), h p (by omega)]
theorem ws_upd {g g' : Nat → Int64} {y : Nat} : ∀ {p : Nat}, y < p → (∀ k, k < p → k ≠ y → g' k = g k) → g y = 0 → ws g' p = ws g p + g' y := by
  intro p
  induction p with
  | zero => intro h; omega
  | succ p ih =>
    intro h h1 h2
    show ws g' p + g' p = ws g p + g p + g' y
    by_cases e : y = p
    · subst e
      rw [ws_congr (g := g) (fun k hk => h1 k (by omega) (by omega)), h2, Int64.add_zero]
    · rw [ih (by omega) (fun k hk => h1 k (by omega)) h2, h1 p (by omega) (fun z => e z.symm), Int64.add_assoc, Int64.add_assoc, Int64.add_comm (g' y)]
theorem ws_0 : ∀ (p : Nat), ws (fun _ => 0) p = 0 := by
  intro p
  induction p with
  | zero => rfl
  | succ p ih => show ws _ p + 0 = 0; rw [ih]; rfl
theorem sm_upd {g g' : Nat → Nat} {y : Nat} : ∀ {p : Nat}, y < p → (∀ k, k < p → k ≠ y → g' k = g k) → g y = 0 → sm g' p = sm g p + g' y := by
  intro p
  induction p with
  | zero => intro h; omega
  | succ p ih =>
    intro h h1 h2
    show sm g' p + g' p = sm g p + g p + g' y
    by_cases e : y = p
    · subst e
      rw [sm_congr (g := g) (fun k hk => h1 k (by omega) (by omega)), h2]; omega
    · rw [ih (by omega) (fun k hk => h1 k (by omega)) h2, h1 p (by omega) (fun z => e z.symm)]; omega
/-- the ways to tile x by its lesser neighbour over side y -/
def wg (a : Nat → Nat → Nat) (w : Nat → Int64) (x y : Nat) : Int64 := if a x y < x then w (a x y) else 0
/-- ways are the sum of the lesser neighbours' -/
def wy (p n : Nat) (a : Nat → Nat → Nat) (w : Nat → Int64) : Prop := w 0 = 1 ∧ ∀ x, 0 < x → x < n → w x = ws (wg a w x) p
def ln (p : Nat) (a : Nat → Nat → Nat) (x : Nat) : Nat := sm (fun y => if a x y < x then 1 else 0) p
theorem wy_same {p n : Nat} {a a' : Nat → Nat → Nat} {w w' : Nat → Int64} (h : wy p n a w) (h' : wy p n a' w') (e : ∀ x y, x < n → y < p → (a' x y < x ∨ a x y < x) → a' x y = a x y) : ∀ x, x < n → w' x = w x := by
  intro x
  induction x using Nat.strongRecOn with
  | ind x ih =>
    intro hx
    by_cases z : x = 0
    · rw [z, h.1, h'.1]
    · rw [h.2 x (by omega) hx, h'.2 x (by omega) hx]
      refine ws_congr (fun y hy => ?_)
      have q := e x y hx hy
      unfold wg
      by_cases c : a x y < x
      · rw [q (Or.inr c), if_pos c, if_pos c]
        exact ih _ c (by omega)
      · rw [if_neg c]
        by_cases c' : a' x y < x
        · exact absurd (q (Or.inl c') ▸ c') c
        · rw [if_neg c']
theorem ln_same {p x : Nat} {a a' : Nat → Nat → Nat} (e : ∀ y, y < p → (a' x y < x ∨ a x y < x) → a' x y = a x y) : ln p a' x = ln p a x := by
  refine sm_congr (fun y hy => ?_)
  have q := e y hy
  by_cases c : a x y < x
  · rw [q (Or.inr c)]
  · rw [if_neg c]
    by_cases c' : a' x y < x
    · exact absurd (q (Or.inl c') ▸ c') c
    · rw [if_neg c']
