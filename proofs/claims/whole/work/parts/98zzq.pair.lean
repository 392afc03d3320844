/-! ===== a tile is numbered: what joins it round a corner ===== -/
section PR1
variable {p n : Nat} {ac : Nat → Nat → Nat} {rg : Nat → Nat} {a b z m : Nat}
theorem res_both (hab : a ≠ b) {x : Nat} (h : res ac x a b m) (ha : ac x a < x) (hb : ac x b < x) : 0 < m ∧ ∃ z', (¬ ac z' a < z' ∧ ¬ ac z' b < z') ∧ up ac a b z' m x ∧ up ac b a z' m x := by
  obtain ⟨z, k, h1, h2, h3⟩ := h
  rcases h3 with ⟨_, e⟩ | ⟨_, _, h6⟩ | ⟨h4, _, h6, h7⟩
  · rw [e] at ha
    exact absurd ha h1
  · rcases h6 with ⟨_, g⟩ | ⟨_, g⟩
    · rcases al_or a b k with ⟨e, _⟩ | ⟨e, _⟩ <;> rw [e] at g
      · exact absurd ha g
      · exact absurd hb g
    · rcases al_or b a k with ⟨e, _⟩ | ⟨e, _⟩ <;> rw [e] at g
      · exact absurd hb g
      · exact absurd ha g
  · exact ⟨h4, z, ⟨h1, h2⟩, h6, h7⟩
/-- on the way up, below the top, the other side doesn't go down -/
theorem up_next (hab : a ≠ b) (fa : ¬ ac z a < z) (fb : ¬ ac z b < z) {j x : Nat} (h : up ac a b z (j + 1) x) (hm : j + 1 < m) (hr : res ac x a b m) : ¬ ac x (al a b (j + 1)) < x := by
  intro hd
  have hd0 := up_dw h
  rw [al_s] at hd
  have hboth : ac x a < x ∧ ac x b < x := by
    rcases al_or a b j with ⟨e1, e2⟩ | ⟨e1, e2⟩ <;> rw [e1] at hd0 <;> rw [e2] at hd
    · exact ⟨hd0, hd⟩
    · exact ⟨hd, hd0⟩
  obtain ⟨_, z', _, u1, u2⟩ := res_both hab hr hboth.1 hboth.2
  have e : m = (m - (j + 1)) + (j + 1) := by omega
  rw [e] at u1 u2
  by_cases c : (m - (j + 1)) % 2 = 0
  · have := up_foot (a' := a) (b' := b) fa fb hab (Or.inl ⟨rfl, rfl⟩) h u1 (al_ev _ _ _ _ c).symm
    omega
  · have := up_foot (a' := b) (b' := a) fa fb hab (Or.inr ⟨rfl, rfl⟩) h u2 (al_od _ _ _ _ (by omega)).symm
    omega
theorem up_rg (hg : pg_g p n ac rg) (ha : a < p) (hb : b < p) : ∀ {k x : Nat}, x < n → up ac a b z k x → rg x = rg z + k := by
  intro k
  induction k with
  | zero => intro x _ h; rw [show x = z from h]; rfl
  | succ k ih =>
    intro x hx h
    obtain ⟨y, h1, h2, h3, h4, h5⟩ := h
    have q := pg_up hg (show y < n by omega) (al_lt ha hb k) (by rw [h5]; exact h3)
    rw [h5] at q
    have := ih (show y < n by omega) h1
    have := q.1.mp h2
    omega
/-- the other way round is there, as far as the ring of tile t -/
theorem up_other (hg : pg_g p n ac rg) (n2 : n ≤ 2000) (ha : a < p) (hb : b < p) (hab : a ≠ b) (fa : ¬ ac z a < z) (fb : ¬ ac z b < z) (hres : ∀ x, x < n → res ac x a b m) {t : Nat} (ht : t < n) (hup : up ac a b z (m - 1) t) (hall : ∀ x y, x < n → rg x < rg t → y < p → ac x y < 2000) : ∀ j, j ≤ m - 1 → ∃ x, up ac b a z j x ∧ x < n := by
  intro j
  induction j with
  | zero =>
    intro _
    have := up_le hup
    exact ⟨z, rfl, by omega⟩
  | succ j ih =>
    intro hj
    obtain ⟨x, h1, hx⟩ := ih (by omega)
    have r1 := up_rg hg ha hb ht hup
    have r2 := up_rg hg hb ha hx h1
    have ex := hall x (al b a j) hx (by omega) (al_lt hb ha j)
    obtain ⟨g1, g2, g3⟩ := hg.1 x _ hx (al_lt hb ha j) ex
    have q := pg_up hg hx (al_lt hb ha j) ex
    have nd : ¬ ac x (al b a j) < x := by
      cases j with
      | zero =>
        rw [show x = z from h1]
        exact fb
      | succ i => exact up_next (m := m) (fun e => hab e.symm) fb fa h1 (Nat.lt_of_lt_of_le (Nat.lt_of_succ_le hj) (Nat.sub_le m 1)) (res_symm (hres x hx))
    refine ⟨ac x (al b a j), ⟨x, h1, ?_, ex, g2, rfl⟩, g1⟩
    rcases g3 with g | g
    · exact q.1.mpr g
    · exact absurd (q.2.mpr g) nd
end PR1
section PR2
variable {p n : Nat} {ac ac' : Nat → Nat → Nat} {rg rg' : Nat → Nat} {a b z : Nat}
/-- tables that agree where there are neighbours -/
def agr (p n : Nat) (ac : Nat → Nat → Nat) (rg : Nat → Nat) (ac' : Nat → Nat → Nat) (rg' : Nat → Nat) : Prop := (∀ x y, x < n → y < p → ac x y < 2000 → ac' x y = ac x y) ∧ (∀ x y, x < n → y < p → ¬ ac x y < 2000 → ¬ (ac' x y < 2000 ∧ rg' (ac' x y) < rg' x)) ∧ ∀ x, x < n → rg' x = rg x
theorem jr_dn_up (hg : pg_g p n ac rg) (hG : agr p n ac rg ac' rg') (ha : a < p) (hb : b < p) (i : Nat) : ∀ {k x : Nat}, x < n → up ac a b z k x → jr_dn ac' rg' (a + b) (k + i) x (al b a k) = jr_dn ac' rg' (a + b) i z b := by
  intro k
  induction k with
  | zero => intro x _ h; rw [show x = z from h, Nat.zero_add]; rfl
  | succ k ih =>
    intro x hx h
    obtain ⟨y, h1, h2, h3, h4, h5⟩ := h
    have q := pg_up hg (show y < n by omega) (al_lt ha hb k) (by rw [h5]; exact h3)
    rw [h5] at q
    have q1 := q.1.mp h2
    have e : ac' x (al a b k) = y := (hG.1 x _ hx (al_lt ha hb k) (by omega)).trans h4
    rw [show k + 1 + i = (k + i) + 1 by omega, al_s]
    show (if ac' x (al a b k) < 2000 ∧ rg' (ac' x (al a b k)) < rg' x then jr_dn ac' rg' (a + b) (k + i) (ac' x (al a b k)) (a + b - al a b k) else _) = _
    rw [e, if_pos ⟨by omega, by rw [hG.2.2 y (by omega), hG.2.2 x hx]; omega⟩, al_w]
    exact ih (by omega) h1
theorem jr_dn_foot (hg : pg_g p n ac rg) (hG : agr p n ac rg ac' rg') (hb : b < p) (hz : z < n) (fb : ¬ ac z b < z) (w i : Nat) : (jr_dn ac' rg' w (i + 1) z b).1 = 2000 := by
  show (if ac' z b < 2000 ∧ rg' (ac' z b) < rg' z then jr_dn ac' rg' w i (ac' z b) (w - b) else (2000, b)).1 = 2000
  rw [if_neg]
  intro ⟨c1, c2⟩
  by_cases e : ac z b < 2000
  · obtain ⟨g1, g2, g3⟩ := hg.1 z b hz hb e
    rw [hG.1 z b hz hb e, hG.2.2 _ g1, hG.2.2 z hz] at c2
    have := (pg_up hg hz hb e).2
    exact fb (this.mpr (by omega))
  · exact hG.2.1 z b hz hb e ⟨c1, c2⟩
theorem jr_up_up (n2 : n ≤ 2000) (hG : agr p n ac rg ac' rg') (ha : a < p) (hb : b < p) : ∀ {k x : Nat} (i : Nat), x < n → up ac a b z k x → jr_up ac' (a + b) (k + i) z a = jr_up ac' (a + b) i x (al a b k) := by
  intro k
  induction k with
  | zero => intro x i _ h; rw [show x = z from h, Nat.zero_add]; rfl
  | succ k ih =>
    intro x i hx h
    obtain ⟨y, h1, h2, h3, h4, h5⟩ := h
    rw [show k + 1 + i = k + (i + 1) by omega, ih (i + 1) (by omega) h1]
    show (if y < 2000 then jr_up ac' (a + b) i (ac' y (al a b k)) (a + b - al a b k) else y) = _
    rw [if_pos (by omega), hG.1 y _ (by omega) (al_lt ha hb k) (by omega), h5, al_w, al_s]
end PR2
section PR3
variable {p n t s r m : Nat} {ac ac' : Nat → Nat → Nat} {rg rg' : Nat → Nat}
/-- the new tile over side s of tile t, and its corner with side r: it isn't joined, or joined with a tile that lies ahead -/
theorem cr_pair (hg : pg_g p n ac rg) (n2 : n ≤ 2000) (hG : agr p n ac rg ac' rg') (hs : s < p) (hr : r < p) (hsr : s ≠ r) (hres : ∀ x, x < n → res ac x s r m) (hm1 : m ≠ 1) (ht : t < n) (hn : ¬ ac t s < 2000) (hall : ∀ x y, x < n → rg x < rg t → y < p → ac x y < 2000) :
    (¬ jr ac' rg' (s + r) m t r < 2000 ∧ ∃ a b z k, (a = s ∧ b = r ∨ a = r ∧ b = s) ∧ (¬ ac z a < z ∧ ¬ ac z b < z) ∧ (m = 0 ∨ k + 1 < m) ∧ al a b k = s ∧ up ac a b z k t) ∨
    (jr ac' rg' (s + r) m t r < n ∧ 2 ≤ m ∧ ac t r < t ∧ ¬ ac (jr ac' rg' (s + r) m t r) r < 2000 ∧ ac (jr ac' rg' (s + r) m t r) s < jr ac' rg' (s + r) m t r ∧ rg (jr ac' rg' (s + r) m t r) = rg t ∧ ∃ a b z, (a = s ∧ b = r ∨ a = r ∧ b = s) ∧ (¬ ac z a < z ∧ ¬ ac z b < z) ∧ al a b (m - 1) = s ∧ up ac a b z (m - 1) t ∧ up ac b a z (m - 1) (jr ac' rg' (s + r) m t r)) := by
  have nds : ¬ ac t s < t := by omega
  obtain ⟨z, k, h1, h2, h3⟩ := hres t ht
  -- one orientation for both ways
  have key : (k = 0 ∧ t = z) ∨ (0 < k ∧ (m = 0 ∨ k < m) ∧ ∃ a b, (a = s ∧ b = r ∨ a = r ∧ b = s) ∧ (¬ ac z a < z ∧ ¬ ac z b < z) ∧ up ac a b z k t ∧ al a b k = s) := by
    rcases h3 with h | ⟨h4, h5, h6⟩ | ⟨h4, h5, h6, h7⟩
    · exact Or.inl h
    · right
      refine ⟨h4, h5, ?_⟩
      obtain ⟨i, e⟩ : ∃ i, k = i + 1 := ⟨k - 1, by omega⟩
      subst e
      rcases h6 with ⟨g1, g2⟩ | ⟨g1, g2⟩
      · refine ⟨s, r, Or.inl ⟨rfl, rfl⟩, ⟨h1, h2⟩, g1, ?_⟩
        have w := up_dw g1
        rw [al_s]
        rcases al_or s r i with ⟨e1, e2⟩ | ⟨e1, e2⟩
        · rw [e1] at w; exact absurd w nds
        · exact e2
      · refine ⟨r, s, Or.inr ⟨rfl, rfl⟩, ⟨h2, h1⟩, g1, ?_⟩
        have w := up_dw g1
        rw [al_s]
        rcases al_or r s i with ⟨e1, e2⟩ | ⟨e1, e2⟩
        · exact e2
        · rw [e1] at w; exact absurd w nds
    · exfalso
      obtain ⟨i, e⟩ : ∃ i, m = i + 1 := ⟨m - 1, by omega⟩
      rw [e] at h6 h7
      have w1 := up_dw h6
      have w2 := up_dw h7
      rcases al_or s r i with ⟨e1, e2⟩ | ⟨e1, e2⟩
      · rw [e1] at w1; exact nds w1
      · rw [e2] at w2; exact nds w2
  have wab : ∀ a b : Nat, (a = s ∧ b = r ∨ a = r ∧ b = s) → s + r = a + b := fun a b h => by omega
  by_cases m0 : m = 0
  · left
    refine ⟨by unfold jr; rw [if_pos m0]; omega, ?_⟩
    rcases key with ⟨e1, e2⟩ | ⟨_, _, a, b, q1, q2, q3, q4⟩
    · exact ⟨s, r, z, 0, Or.inl ⟨rfl, rfl⟩, ⟨h1, h2⟩, Or.inl m0, rfl, e2⟩
    · exact ⟨a, b, z, k, q1, q2, Or.inl m0, q4, q3⟩
  · rcases key with ⟨e1, e2⟩ | ⟨k0, hk, a, b, q1, q2, q3, q4⟩
    · left
      refine ⟨?_, s, r, z, 0, Or.inl ⟨rfl, rfl⟩, ⟨h1, h2⟩, Or.inr (by omega), rfl, e2⟩
      unfold jr
      rw [if_neg m0, show m - 1 = (m - 2) + 1 by omega, e2, jr_dn_foot hg hG hr (e2 ▸ ht) h2 (s + r) (m - 2), if_neg (by decide)]
      decide
    · have hab : a ≠ b := by omega
      have ha : a < p := by omega
      have hb : b < p := by omega
      have er : al b a k = r := by
        rcases al_or a b k with ⟨e1, e2⟩ | ⟨e1, e2⟩ <;> omega
      have zn : z < n := by have := up_le q3; omega
      by_cases km : k + 1 < m
      · left
        refine ⟨?_, a, b, z, k, q1, q2, Or.inr km, q4, q3⟩
        unfold jr
        have e := jr_dn_up hg hG ha hb (m - 1 - k) ht q3
        rw [er, show k + (m - 1 - k) = m - 1 by omega, ← wab a b q1] at e
        rw [if_neg m0, e, show m - 1 - k = (m - 2 - k) + 1 by omega, jr_dn_foot hg hG hb zn q2.2 (s + r) (m - 2 - k), if_neg (by decide)]
        decide
      · right
        have km1 : k = m - 1 := by omega
        have hres' : ∀ x, x < n → res ac x a b m := fun x hx => by
          rcases q1 with ⟨x1, x2⟩ | ⟨x1, x2⟩ <;> rw [x1, x2]
          · exact hres x hx
          · exact res_symm (hres x hx)
        rw [km1] at q3 q4 er k0
        obtain ⟨f, f1, f2⟩ := up_other hg n2 ha hb hab q2.1 q2.2 hres' ht q3 hall (m - 1) (Nat.le_refl _)
        have ef : jr ac' rg' (s + r) m t r = f := by
          unfold jr
          have e := jr_dn_up hg hG ha hb 0 ht q3
          rw [er, Nat.add_zero, ← wab a b q1] at e
          have e3 : jr_dn ac' rg' (s + r) 0 z b = (z, b) := rfl
          rw [if_neg m0, e, e3, if_pos (show z < 2000 by omega)]
          have e2 := jr_up_up n2 hG hb ha 0 f2 f1
          rw [Nat.add_zero, Nat.add_comm b a, ← wab a b q1] at e2
          exact e2
        rw [ef]
        obtain ⟨i, ei⟩ : ∃ i, m - 1 = i + 1 := ⟨m - 2, by omega⟩
        have dtr : ac t r < t := by
          rw [ei] at q3 er
          have := up_dw q3
          rw [al_s] at er
          rw [er] at this; exact this
        have dfs : ac f s < f := by
          rw [ei] at f1 q4
          have := up_dw f1
          rw [al_s] at q4
          rw [q4] at this; exact this
        have ndr : ¬ ac f r < f := by
          rw [ei] at f1 er
          have := up_next (m := m) (fun e => hab e.symm) q2.2 q2.1 f1 (by omega) (res_symm (hres' f f2))
          rw [er] at this; exact this
        have rgf : rg f = rg t := by
          rw [up_rg hg hb ha f2 f1, up_rg hg ha hb ht q3]
        refine ⟨f2, by omega, dtr, fun hu => ?_, dfs, rgf, a, b, z, q1, q2, q4, q3, f1⟩
        -- suppose there is a tile over side r of f
        obtain ⟨g1, g2, g3⟩ := hg.1 f r f2 hr hu
        have fu : f < ac f r := by
          have := pg_up hg f2 hr hu
          rcases g3 with g | g
          · exact this.1.mpr g
          · exact absurd (this.2.mpr g) ndr
        have um : up ac b a z m (ac f r) := by
          rw [show m = (m - 1) + 1 by omega]
          exact ⟨f, f1, fu, hu, by rw [er]; exact g2, by rw [er]⟩
        have dur : ac (ac f r) r < ac f r := by rw [g2]; exact fu
        obtain ⟨z', k', c1, c2, c3⟩ := hres' _ g1
        have rl : al b a (m - 1) = r := er
        rcases c3 with ⟨_, e⟩ | ⟨c4, c5, c6⟩ | ⟨_, _, c6, c7⟩
        · rw [e] at dur
          rcases q1 with ⟨x1, x2⟩ | ⟨x1, x2⟩
          · rw [x2] at c2; exact c2 dur
          · rw [x1] at c1; exact c1 dur
        · obtain ⟨i', ei'⟩ : ∃ i', k' = i' + 1 := ⟨k' - 1, by omega⟩
          subst ei'
          have lk : i' + 1 < m := by omega
          have em : m = (m - (i' + 1)) + (i' + 1) := by omega
          have um' := um
          rw [em] at um'
          rcases c6 with ⟨c6, c7⟩ | ⟨c6, c7⟩
          · rw [al_s] at c7
            have : al a b i' = r := by
              rcases al_or a b i' with ⟨y1, y2⟩ | ⟨y1, y2⟩
              · by_cases e : a = r
                · rw [y1, e]
                · have : b = r := by omega
                  rw [y2, this] at c7; exact absurd dur c7
              · by_cases e : b = r
                · rw [y1, e]
                · have : a = r := by omega
                  rw [y2, this] at c7; exact absurd dur c7
            have w := up_foot (a' := b) (b' := a) c1 c2 hab (Or.inr ⟨rfl, rfl⟩) c6 um' (by rw [this, show m - (i' + 1) + i' = m - 1 by omega, rl])
            omega
          · rw [al_s] at c7
            have : al b a i' = r := by
              rcases al_or b a i' with ⟨y1, y2⟩ | ⟨y1, y2⟩
              · by_cases e : b = r
                · rw [y1, e]
                · have : a = r := by omega
                  rw [y2, this] at c7; exact absurd dur c7
              · by_cases e : a = r
                · rw [y1, e]
                · have : b = r := by omega
                  rw [y2, this] at c7; exact absurd dur c7
            have w := up_foot (a' := b) (b' := a) c2 c1 (fun e => hab e.symm) (Or.inl ⟨rfl, rfl⟩) c6 um' (by rw [this, show m - (i' + 1) + i' = m - 1 by omega, rl])
            omega
        · have e0 := up_peel (i := 0) (fun j' => by rw [Nat.zero_add]) um (show up ac b a z' (0 + m) (ac f r) by rw [Nat.zero_add]; exact c7)
          have ez : z = z' := e0
          subst ez
          rw [show m = (m - 1) + 1 by omega] at c6
          obtain ⟨y, y1, y2, y3, y4, y5⟩ := c6
          have := up_fun q3 y1
          rw [← this, q4] at y5
          rw [y5] at hn
          omega
end PR3
