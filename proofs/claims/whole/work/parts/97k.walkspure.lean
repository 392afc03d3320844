/-! ===== walks, counted: pure ===== -/
def sm (f : Nat → Nat) : Nat → Nat
  | 0 => 0
  | n + 1 => sm f n + f n
theorem sm_congr {f g : Nat → Nat} : ∀ {n : Nat}, (∀ i, i < n → f i = g i) → sm f n = sm g n := by
  intro n
  induction n with
  | zero => intros; rfl
  | succ n ih =>
    intro h
    show sm f n + f n = sm g n + g n
    rw [ih (fun i hi => h i (by omega)), h n (by omega)]
theorem sm_le {f g : Nat → Nat} : ∀ {n : Nat}, (∀ i, i < n → f i ≤ g i) → sm f n ≤ sm g n := by
  intro n
  induction n with
  | zero => intros; exact Nat.le_refl _
  | succ n ih =>
    intro h
    exact Nat.add_le_add (ih (fun i hi => h i (by omega))) (h n (by omega))
theorem sm_zero : ∀ (n : Nat), sm (fun _ => 0) n = 0 := by
  intro n
  induction n with
  | zero => rfl
  | succ n ih => show sm _ n + 0 = 0; rw [ih]
theorem sm_one : ∀ (n : Nat), sm (fun _ => 1) n = n := by
  intro n
  induction n with
  | zero => rfl
  | succ n ih => show sm _ n + 1 = n + 1; rw [ih]
theorem sm_add {f g : Nat → Nat} : ∀ (n : Nat), sm (fun i => f i + g i) n = sm f n + sm g n := by
  intro n
  induction n with
  | zero => rfl
  | succ n ih =>
    show sm _ n + (f n + g n) = sm f n + f n + (sm g n + g n)
    rw [ih]
    omega
theorem sm_mul {f : Nat → Nat} (c : Nat) : ∀ (n : Nat), sm (fun i => f i * c) n = sm f n * c := by
  intro n
  induction n with
  | zero => exact (Nat.zero_mul c).symm
  | succ n ih =>
    show sm _ n + f n * c = (sm f n + f n) * c
    rw [ih, Nat.add_mul]
theorem sm_swap {F : Nat → Nat → Nat} (m : Nat) : ∀ (n : Nat), sm (fun i => sm (fun j => F i j) m) n = sm (fun j => sm (fun i => F i j) n) m := by
  intro n
  induction n with
  | zero => exact (sm_zero m).symm
  | succ n ih =>
    show sm _ n + sm (fun j => F n j) m = sm (fun j => sm (fun i => F i j) n + F n j) m
    rw [ih, sm_add]
theorem sm_single {f : Nat → Nat} {a : Nat} : ∀ (n : Nat), sm (fun u => if a = u then f u else 0) n = if a < n then f a else 0 := by
  intro n
  induction n with
  | zero => rw [if_neg (by omega)]; rfl
  | succ n ih =>
    show sm _ n + (if a = n then f n else 0) = _
    rw [ih]
    by_cases h : a = n
    · subst h
      rw [if_neg (by omega), if_pos rfl, if_pos (by omega), Nat.zero_add]
    · rw [if_neg h, Nat.add_zero]
      by_cases h2 : a < n
      · rw [if_pos h2, if_pos (by omega)]
      · rw [if_neg h2, if_neg (by omega)]
/-- what lies across, of a count -/
def wv (g : Nat → Nat) (w : Int32) : Nat := if w = -1 then 0 else g w.toNatClampNeg
/-- the neighbours' counts together -/
def wA (p : Nat) (ac : Nat → Int32) (g : Nat → Nat) (t : Nat) : Nat := sm (fun s => wv g (ac (8 * t + s))) p
/-- how many walks of k steps end at a tile -/
def ww (p : Nat) (ac : Nat → Int32) : Nat → Nat → Nat
  | 0 => fun t => if t = 0 then 1 else 0
  | k + 1 => wA p ac (ww p ac k)
/-- a board's neighbours -/
def lw_sym (p T : Nat) (ac : Nat → Int32) : Prop := lr_acr p T ac ∧ ∀ a s u, a < T → s < p → u < T → ac (8 * a + s) = nI u → ac (8 * u + s) = nI a
section WW
variable {p T : Nat} {ac : Nat → Int32}
/-- 1 where u lies across side s of t -/
def wM (ac : Nat → Int32) (t s u : Nat) : Nat := if ac (8 * t + s) = nI u then 1 else 0
theorem wM_sym (h : lw_sym p T ac) {t s u : Nat} (ht : t < T) (hs : s < p) (hu : u < T) : wM ac t s u = wM ac u s t := by
  unfold wM
  by_cases e : ac (8 * t + s) = nI u
  · rw [if_pos e, if_pos (h.2 t s u ht hs hu e)]
  · rw [if_neg e, if_neg (fun e2 => e (h.2 u s t hu hs ht e2))]
theorem wv_sm (hT : T ≤ 2000) (h : lw_sym p T ac) (g : Nat → Nat) {t s : Nat} (ht : t < T) (hs : s < p) : wv g (ac (8 * t + s)) = sm (fun u => wM ac t s u * g u) T := by
  unfold wv wM
  rcases h.1 t s ht hs with e | ⟨v, hv, e⟩
  · rw [if_pos e, e]
    symm
    refine (sm_congr (g := fun _ => 0) (fun u hu => ?_)).trans (sm_zero T)
    rw [if_neg (fun z => nI_ne_m1 (u := u) (by omega) z.symm), Nat.zero_mul]
  · rw [e, if_neg (nI_ne_m1 (by omega)), nI_clamp (by omega)]
    have := sm_single (f := g) (a := v) T
    rw [if_pos hv] at this
    rw [← this]
    apply sm_congr
    intro u hu
    by_cases z : v = u
    · subst z
      rw [if_pos rfl, if_pos rfl, Nat.one_mul]
    · rw [if_neg z, if_neg (fun q => z ((nI_eq (by omega) (by omega)).mp q)), Nat.zero_mul]
theorem wA_sm (hT : T ≤ 2000) (h : lw_sym p T ac) (g : Nat → Nat) {t : Nat} (ht : t < T) : wA p ac g t = sm (fun s => sm (fun u => wM ac t s u * g u) T) p :=
  sm_congr (fun _ hs => wv_sm hT h g ht hs)
/-- the neighbours' sums are the same from both sides -/
theorem wA_ip (hT : T ≤ 2000) (h : lw_sym p T ac) (f g : Nat → Nat) : sm (fun t => wA p ac f t * g t) T = sm (fun t => f t * wA p ac g t) T := by
  have e1 : sm (fun t => wA p ac f t * g t) T = sm (fun t => sm (fun s => sm (fun u => wM ac t s u * f u * g t) T) p) T := sm_congr (fun t ht => by
    rw [wA_sm hT h f ht, ← sm_mul]
    exact sm_congr (fun s _ => (sm_mul (f := fun u => wM ac t s u * f u) (g t) T).symm))
  have e2 : sm (fun t => f t * wA p ac g t) T = sm (fun u => sm (fun s => sm (fun t => wM ac t s u * f u * g t) T) p) T := sm_congr (fun u hu => by
    rw [wA_sm hT h g hu, Nat.mul_comm, ← sm_mul]
    refine sm_congr (fun s hs => ?_)
    rw [← sm_mul]
    refine sm_congr (fun t ht => ?_)
    rw [wM_sym h hu hs ht, Nat.mul_assoc, Nat.mul_comm (g t) (f u), ← Nat.mul_assoc])
  rw [e1, e2, sm_swap]
  rw [sm_swap (F := fun u s => sm (fun t => wM ac t s u * f u * g t) T)]
  exact sm_congr (fun s _ => sm_swap (F := fun t u => wM ac t s u * f u * g t) T T)
theorem wA_one {t : Nat} : wA p ac (fun _ => 1) t ≤ p := by
  have : wA p ac (fun _ => 1) t ≤ sm (fun _ => 1) p := sm_le (fun s _ => by
    unfold wv
    split
    · exact Nat.zero_le _
    · exact Nat.le_refl _)
  rw [sm_one] at this
  exact this
theorem ww_sum (hT : T ≤ 2000) (h : lw_sym p T ac) : ∀ k, sm (ww p ac k) T ≤ p ^ k := by
  intro k
  induction k with
  | zero =>
    have : sm (ww p ac 0) T = sm (fun u => if 0 = u then (fun _ => 1) u else 0) T := sm_congr (fun i _ => by
      show (if i = 0 then 1 else 0) = if 0 = i then 1 else 0
      by_cases e : i = 0
      · rw [if_pos e, if_pos e.symm]
      · rw [if_neg e, if_neg (fun z => e z.symm)])
    rw [this, sm_single]
    rw [Nat.pow_zero]
    split <;> decide
  | succ k ih =>
    have e : sm (ww p ac (k + 1)) T = sm (fun t => wA p ac (ww p ac k) t * (fun _ => 1) t) T := sm_congr (fun i _ => (Nat.mul_one _).symm)
    rw [e, wA_ip hT h]
    have : sm (fun t => ww p ac k t * wA p ac (fun _ => 1) t) T ≤ sm (fun t => ww p ac k t * p) T := sm_le (fun t _ => Nat.mul_le_mul (Nat.le_refl _) wA_one)
    rw [sm_mul] at this
    refine Nat.le_trans this ?_
    rw [Nat.pow_succ]
    exact Nat.mul_le_mul ih (Nat.le_refl p)
theorem ww_ip (hT : T ≤ 2000) (h : lw_sym p T ac) (a c : Nat) : sm (fun t => ww p ac (a + 1) t * ww p ac c t) T = sm (fun t => ww p ac a t * ww p ac (c + 1) t) T := wA_ip hT h _ _
theorem ww_ip2 (hT : T ≤ 2000) (h : lw_sym p T ac) : ∀ (r a c : Nat), sm (fun t => ww p ac (a + r) t * ww p ac c t) T = sm (fun t => ww p ac a t * ww p ac (c + r) t) T := by
  intro r
  induction r with
  | zero => intros; rfl
  | succ r ih =>
    intro a c
    rw [show a + (r + 1) = a + 1 + r by omega, ih (a + 1) c, ww_ip hT h a (c + r)]
    rfl
/-- who comes home in twice k steps -/
theorem ww_home (hT : T ≤ 2000) (h0 : 0 < T) (h : lw_sym p T ac) (k : Nat) : ww p ac (k + k) 0 = sm (fun t => ww p ac k t * ww p ac k t) T := by
  have e := ww_ip2 hT h k k 0
  rw [Nat.zero_add] at e
  rw [← e]
  have : sm (fun t => ww p ac (k + k) t * ww p ac 0 t) T = sm (fun u => if 0 = u then ww p ac (k + k) u else 0) T := sm_congr (fun i _ => by
    show ww p ac (k + k) i * (if i = 0 then 1 else 0) = _
    by_cases e : i = 0
    · rw [if_pos e, if_pos e.symm, Nat.mul_one]
    · rw [if_neg e, if_neg (fun z => e z.symm), Nat.mul_zero])
  rw [this, sm_single, if_pos h0]
/-- rings: neighbours are of the next ring or of the one before -/
def lw_rg (p T : Nat) (ac : Nat → Int32) (rg : Nat → Nat) : Prop := rg 0 = 0 ∧ (∀ t, t < T → rg t < 64) ∧ (∀ a c, a ≤ c → c < T → rg a ≤ rg c) ∧ ∀ a s u, a < T → s < p → u < T → ac (8 * a + s) = nI u → rg u = rg a + 1 ∨ rg a = rg u + 1
theorem sm_pos {f : Nat → Nat} : ∀ {n : Nat}, sm f n ≠ 0 → ∃ i, i < n ∧ f i ≠ 0 := by
  intro n
  induction n with
  | zero => intro h; exact absurd rfl h
  | succ n ih =>
    intro h
    by_cases e : f n = 0
    · have : sm f n ≠ 0 := fun z => h (by show sm f n + f n = 0; omega)
      obtain ⟨i, h1, h2⟩ := ih this
      exact ⟨i, by omega, h2⟩
    · exact ⟨n, by omega, e⟩
theorem ww_rg (hT : T ≤ 2000) (h : lw_sym p T ac) {rg : Nat → Nat} (hr : lw_rg p T ac rg) : ∀ (k t : Nat), t < T → ww p ac k t ≠ 0 → rg t ≤ k ∧ (rg t + k) % 2 = 0 := by
  intro k
  induction k with
  | zero =>
    intro t ht hn
    have : t = 0 := Classical.byContradiction (fun e => hn (if_neg e))
    subst this
    rw [hr.1]
    exact ⟨Nat.le_refl 0, rfl⟩
  | succ k ih =>
    intro t ht hn
    obtain ⟨s, hs, h1⟩ := sm_pos hn
    rcases h.1 t s ht hs with e | ⟨v, hv, e⟩
    · exact absurd (by unfold wv; rw [if_pos e]) h1
    · have h2 : ww p ac k v ≠ 0 := fun z => h1 (by
        unfold wv
        rw [e, if_neg (nI_ne_m1 (by omega)), nI_clamp (by omega)]
        exact z)
      have := ih v hv h2
      rcases hr.2.2.2 t s v ht hs hv e with e2 | e2 <;> omega
theorem ww_far (hT : T ≤ 2000) (h : lw_sym p T ac) {rg : Nat → Nat} (hr : lw_rg p T ac rg) (k : Nat) : sm (fun t => rg t * ww p ac k t) T ≤ 64 * p ^ k := by
  have : sm (fun t => rg t * ww p ac k t) T ≤ sm (fun t => ww p ac k t * 64) T := sm_le (fun t ht => by
    rw [Nat.mul_comm (ww p ac k t)]
    exact Nat.mul_le_mul (Nat.le_of_lt (hr.2.1 t ht)) (Nat.le_refl _))
  rw [sm_mul, Nat.mul_comm] at this
  exact Nat.le_trans this (Nat.mul_le_mul (Nat.le_refl _) (ww_sum hT h k))
end WW
/-! Euclid's steps -/
/-- the greatest common divisor, step by step -/
theorem eu_half {a r : Nat} (h0 : 0 < r) (h : r < a) : 2 * (a % r) < a := by
  have h1 : a % r < r := Nat.mod_lt _ h0
  have h2 : a % r ≤ a - r := by
    have := Nat.mod_eq_sub_mod (Nat.le_of_lt h)
    rw [this]
    exact Nat.mod_le _ _
  omega
