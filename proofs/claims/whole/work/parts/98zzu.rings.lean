/-! ===== the plane under way: side by side, and how many rings there can be ===== -/
section PU1
variable {p n t s : Nat} {ac : Nat → Nat → Nat} {rg : Nat → Nat} {cs : Nat → Nat} {V1 V2 : Nat → Nat → Nat}
theorem pi_0 : pi_t p cs 1 (fun _ _ => 2000) (fun _ => 0) (fun _ _ => 1) (fun _ _ => 1) 0 0 := by
  refine ⟨⟨by omega, by omega, by omega, rfl, ⟨fun x y hx hy hz => absurd hz (by show ¬ 2000 < 2000; omega), fun _ _ _ _ => Nat.le_refl _⟩⟩, ⟨fun x y hx => absurd hx (by omega), fun y hy => absurd hy (by omega), fun _ _ => Nat.zero_le _, fun x h0 hx => absurd hx (by omega)⟩, fun x y y' hx _ _ hd => absurd hd (by omega), fun x a hx _ => ?_, fun x y hx hy hl hz => absurd hz (by show ¬ 2000 < 2000; omega), fun x j hx hj => ⟨by show 1 < an_P1; decide, by show 1 < an_P2; decide⟩, fun j => ⟨rfl, rfl⟩⟩
  exact res_foot (by omega) (by omega)
theorem pi_s (h : pi_t p cs n ac rg V1 V2 t s) (hs : s < p) (ha : ac t s < 2000) : pi_t p cs n ac rg V1 V2 t (s + 1) := by
  obtain ⟨⟨h1, h2, h3, h4, h5⟩, ⟨g1, g2, g3, g4⟩, h6⟩ := h
  refine ⟨⟨h1, h2, hs, h4, h5⟩, ⟨g1, fun y hy => ?_, g3, g4⟩, h6⟩
  by_cases e : y = s
  · rw [e]; exact ha
  · exact g2 y (by omega)
/-- sides that don't meet aren't both ways down -/
theorem pi_far (hp4 : 4 ≤ p) (h : pi_t p cs n ac rg V1 V2 t s) {x y : Nat} (hx : x < n) (hy : y + 2 < p) (hy1 : y ≤ 1) (h1 : ac x y < x) (h2 : ac x (y + 2) < x) : False := by
  obtain ⟨_, _, hadj, _⟩ := h
  have q := hadj x y (y + 2) hx (by omega) hy h1 h2
  rcases md_1 (show y < p by omega) with ⟨x1, x2⟩ | ⟨x1, x2⟩ <;> rcases md_1 hy with ⟨x3, x4⟩ | ⟨x3, x4⟩ <;> omega
theorem pi_r (hp4 : 4 ≤ p) (h : pi_t p cs n ac rg V1 V2 t p) : pi_t p cs n ac rg V1 V2 (t + 1) 0 := by
  have h0 := h
  obtain ⟨⟨h1, h2, h3, h4, h5⟩, ⟨g1, g2, g3, g4⟩, h6⟩ := h
  have key : ∃ y, y < p ∧ ¬ ac t y < t := by
    by_cases e : ac t 0 < t
    · exact ⟨2, by omega, fun z => pi_far hp4 h0 h1 (y := 0) (by omega) (by omega) e z⟩
    · exact ⟨0, by omega, e⟩
  obtain ⟨y, y1, y2⟩ := key
  obtain ⟨k1, k2, k3⟩ := h5.1 t y h1 y1 (g2 y y1)
  have ne : ac t y ≠ t := fun z => by
    rw [z] at k3; omega
  have tn : t + 1 < n := by omega
  refine ⟨⟨tn, h2, by omega, h4, h5⟩, ⟨fun x y hx hy => ?_, fun y hy => absurd hy (by omega), fun x hx => ?_, g4⟩, h6⟩
  · by_cases e : x = t
    · rw [e]; exact g2 y hy
    · exact g1 x y (by omega) hy
  · have := g3 x hx
    have := h5.2 t (t + 1) (by omega) tn
    omega
end PU1
/-- as many as find room -/
theorem inj_le : ∀ (n N : Nat) (f : Nat → Nat), (∀ i, i < N → f i < n) → (∀ i j, i < N → j < N → f i = f j → i = j) → N ≤ n := by
  intro n
  induction n with
  | zero =>
    intro N f h _
    by_cases e : N = 0
    · omega
    · exact absurd (h 0 (by omega)) (by omega)
  | succ n ih =>
    intro N f h hi
    by_cases e : ∃ i0, i0 < N ∧ f i0 = n
    · obtain ⟨i0, e1, e2⟩ := e
      have := ih (N - 1) (fun i => f (if i < i0 then i else i + 1)) (fun i hi' => by
        show f (if i < i0 then i else i + 1) < n
        by_cases c : i < i0
        · rw [if_pos c]
          have := h i (by omega)
          by_cases c2 : f i = n
          · have := hi i i0 (by omega) e1 (c2.trans e2.symm); omega
          · omega
        · rw [if_neg c]
          have := h (i + 1) (by omega)
          by_cases c2 : f (i + 1) = n
          · have := hi (i + 1) i0 (by omega) e1 (c2.trans e2.symm); omega
          · omega) (fun i j hi' hj' hf => by
        have hf' : f (if i < i0 then i else i + 1) = f (if j < i0 then j else j + 1) := hf
        by_cases c : i < i0 <;> by_cases c2 : j < i0
        · rw [if_pos c, if_pos c2] at hf'
          exact hi i j (by omega) (by omega) hf'
        · rw [if_pos c, if_neg c2] at hf'
          have := hi i (j + 1) (by omega) (by omega) hf'; omega
        · rw [if_neg c, if_pos c2] at hf'
          have := hi (i + 1) j (by omega) (by omega) hf'; omega
        · rw [if_neg c, if_neg c2] at hf'
          have := hi (i + 1) (j + 1) (by omega) (by omega) hf'; omega)
      omega
    · refine Nat.le_succ_of_le (ih N f (fun i hi' => ?_) hi)
      have := h i hi'
      by_cases c : f i = n
      · exact absurd ⟨i, hi', c⟩ e
      · omega
/-- straight on from home, over sides 0 and 2 in turn, then over sides 1 and 3 -/
def tA (ac : Nat → Nat → Nat) : Nat → Nat
  | 0 => 0
  | i + 1 => ac (tA ac i) (al 0 2 i)
def tB (ac : Nat → Nat → Nat) (i : Nat) : Nat → Nat
  | 0 => tA ac i
  | j + 1 => ac (tB ac i j) (al 1 3 j)
section PU2
variable {p n t s : Nat} {ac : Nat → Nat → Nat} {rg : Nat → Nat} {cs : Nat → Nat} {V1 V2 : Nat → Nat → Nat}
theorem tA_ok (hp4 : 4 ≤ p) (hcs : ∀ j, j < p → cs j < 10 ∧ cs j ≠ 1) (h : pi_t p cs n ac rg V1 V2 t s) : ∀ i, i ≤ rg t → tA ac i < n ∧ rg (tA ac i) = i ∧ ∀ y, y < p → ac (tA ac i) y < tA ac i → 0 < i ∧ y = al 0 2 (i - 1) := by
  have hlow := pi_low h
  obtain ⟨⟨ht, n2, _, rg0, hg⟩, ⟨hall, hal, hrg, hpar⟩, hadj, hres, hV, hlt, hV0⟩ := h
  intro i
  induction i with
  | zero => intro _; exact ⟨by show 0 < n; omega, rg0, fun y _ hd => absurd hd (by show ¬ ac 0 y < 0; omega)⟩
  | succ i ih =>
    intro hi
    obtain ⟨i1, i2, i3⟩ := ih (by omega)
    have ly : al 0 2 i < p := al_lt (by omega) (by omega) i
    have ex := hlow (tA ac i) (al 0 2 i) i1 (by omega) ly
    obtain ⟨g1, g2, g3⟩ := hg.1 _ _ i1 ly ex
    have nd : ¬ ac (tA ac i) (al 0 2 i) < tA ac i := fun z => by
      obtain ⟨z1, z2⟩ := i3 _ ly z
      rw [show i = (i - 1) + 1 by omega, al_s, Nat.add_sub_cancel] at z2
      exact al_ne (show (0 : Nat) ≠ 2 by decide) (i - 1) z2.symm
    have q := pg_up hg i1 ly ex
    have hup : tA ac i < ac (tA ac i) (al 0 2 i) := by
      rcases g3 with g | g
      · exact q.1.mpr g
      · exact absurd (q.2.mpr g) nd
    refine ⟨g1, by show rg (ac (tA ac i) (al 0 2 i)) = i + 1; rw [q.1.mp hup, i2], fun y hy hd => ⟨by omega, ?_⟩⟩
    have hd' : ac (ac (tA ac i) (al 0 2 i)) y < ac (tA ac i) (al 0 2 i) := hd
    rw [Nat.add_sub_cancel]
    by_cases e : y = al 0 2 i
    · exact e
    · exfalso
      have hd0 : ac (ac (tA ac i) (al 0 2 i)) (al 0 2 i) < ac (tA ac i) (al 0 2 i) := by rw [g2]; exact hup
      -- both ways down: so the other goes down one tile below too
      have both : ∀ a b : Nat, a < p → b = (a + 1) % p → (a = al 0 2 i ∧ b = y ∨ a = y ∧ b = al 0 2 i) → ac (tA ac i) y < tA ac i := fun a b ha hb hab => by
        have r := hres _ a g1 ha
        rw [← hb] at r
        have nab : a ≠ b := by omega
        obtain ⟨m0, z, _, u1, u2⟩ := res_both nab r (by rcases hab with ⟨x1, x2⟩ | ⟨x1, x2⟩ <;> rw [x1] <;> assumption) (by rcases hab with ⟨x1, x2⟩ | ⟨x1, x2⟩ <;> rw [x2] <;> assumption)
        have m2 : 2 ≤ cs a := by have := (hcs a ha).2; omega
        obtain ⟨k, ek⟩ : ∃ k, cs a = k + 2 := ⟨cs a - 2, by omega⟩
        rw [ek] at u1 u2
        have go : ∀ a' b', up ac a' b' z (k + 2) (ac (tA ac i) (al 0 2 i)) → al a' b' (k + 1) = al 0 2 i → al b' a' (k + 1) = y → ac (tA ac i) y < tA ac i := fun a' b' u e1 e2 => by
          obtain ⟨x', v1, v2, v3, v4, v5⟩ := u
          rw [e1, g2] at v4
          rw [← v4] at v1
          have w := up_dw v1
          rw [← e2, al_s]; exact w
        rcases al_or a b (k + 1) with ⟨y1, y2⟩ | ⟨y1, y2⟩ <;> rcases hab with ⟨x1, x2⟩ | ⟨x1, x2⟩
        · exact go a b u1 (y1.trans x1) (y2.trans x2)
        · exact go b a u2 (y2.trans x2) (y1.trans x1)
        · exact go b a u2 (y2.trans x1) (y1.trans x2)
        · exact go a b u1 (y1.trans x2) (y2.trans x1)
      have dx : ac (tA ac i) y < tA ac i := by
        rcases hadj _ _ _ g1 ly hy hd0 hd' with c | c | c
        · exact absurd c.symm e
        · exact both (al 0 2 i) y ly c (Or.inl ⟨rfl, rfl⟩)
        · exact both y (al 0 2 i) hy c (Or.inr ⟨rfl, rfl⟩)
      obtain ⟨z1, z2⟩ := i3 y hy dx
      have l1 := al_or 0 2 i
      have l2 := al_or 0 2 (i - 1)
      rcases hadj _ _ _ g1 ly hy hd0 hd' with c | c | c
      · exact e c.symm
      · rcases md_1 ly with ⟨x1, x2⟩ | ⟨x1, x2⟩ <;> omega
      · rcases md_1 hy with ⟨x1, x2⟩ | ⟨x1, x2⟩ <;> omega
theorem tB_ok (hp4 : 4 ≤ p) (hcs : ∀ j, j < p → cs j < 10 ∧ cs j ≠ 1) (h : pi_t p cs n ac rg V1 V2 t s) (i : Nat) : ∀ j, i + j ≤ rg t → tB ac i j < n ∧ rg (tB ac i j) = i + j ∧ (0 < j → ac (tB ac i j) (al 1 3 (j - 1)) = tB ac i (j - 1) ∧ tB ac i (j - 1) < tB ac i j) := by
  have hlow := pi_low h
  have h0 := h
  obtain ⟨⟨ht, n2, _, rg0, hg⟩, ⟨hall, hal, hrg, hpar⟩, hadj, hres, hV, hlt, hV0⟩ := h
  intro j
  induction j with
  | zero =>
    intro hi
    obtain ⟨a1, a2, _⟩ := tA_ok hp4 hcs h0 i (by omega)
    exact ⟨a1, a2, fun z => absurd z (by omega)⟩
  | succ j ih =>
    intro hj
    obtain ⟨i1, i2, i3⟩ := ih (by omega)
    have ly : al 1 3 j < p := al_lt (by omega) (by omega) j
    have ex := hlow (tB ac i j) (al 1 3 j) i1 (by omega) ly
    obtain ⟨g1, g2, g3⟩ := hg.1 _ _ i1 ly ex
    have q := pg_up hg i1 ly ex
    have nd : ¬ ac (tB ac i j) (al 1 3 j) < tB ac i j := fun z => by
      by_cases e : j = 0
      · subst e
        obtain ⟨_, _, a3⟩ := tA_ok hp4 hcs h0 i (by omega)
        obtain ⟨_, b2⟩ := a3 _ ly z
        have := al_or 0 2 (i - 1)
        have : al 1 3 0 = 1 := rfl
        omega
      · obtain ⟨b1, b2⟩ := i3 (by omega)
        have z' : ac (tB ac i j) (al 1 3 (j - 1)) < tB ac i j := by rw [b1]; exact b2
        rw [show j = (j - 1) + 1 by omega, al_s, show j - 1 + 1 = j by omega] at z
        rcases al_or 1 3 (j - 1) with ⟨y1, y2⟩ | ⟨y1, y2⟩ <;> rw [y1] at z' <;> rw [y2] at z
        · exact pi_far hp4 h0 i1 (y := 1) (by omega) (by omega) z' z
        · exact pi_far hp4 h0 i1 (y := 1) (by omega) (by omega) z z'
    have hup : tB ac i j < ac (tB ac i j) (al 1 3 j) := by
      rcases g3 with g | g
      · exact q.1.mpr g
      · exact absurd (q.2.mpr g) nd
    refine ⟨g1, ?_, fun _ => ?_⟩
    · show rg (ac (tB ac i j) (al 1 3 j)) = i + (j + 1)
      rw [q.1.mp hup, i2]; omega
    · rw [Nat.add_sub_cancel]
      exact ⟨g2, hup⟩
theorem tB_inj (hp4 : 4 ≤ p) (hcs : ∀ j, j < p → cs j < 10 ∧ cs j ≠ 1) (h : pi_t p cs n ac rg V1 V2 t s) : ∀ (j i j' i' : Nat), i + j ≤ rg t → i' + j' ≤ rg t → tB ac i j = tB ac i' j' → j = j' ∧ i = i' := by
  intro j
  induction j with
  | zero =>
    intro i j' i' hi hi' e
    obtain ⟨b1, b2, b3⟩ := tB_ok hp4 hcs h i' j' hi'
    obtain ⟨a1, a2, a3⟩ := tA_ok hp4 hcs h i (by omega)
    have er : i = i' + j' := by rw [← b2, ← e]; exact a2.symm
    by_cases c : j' = 0
    · omega
    · exfalso
      obtain ⟨c1, c2⟩ := b3 (by omega)
      rw [← e] at c1 c2
      obtain ⟨d1, d2⟩ := a3 (al 1 3 (j' - 1)) (al_lt (by omega) (by omega) _) (by show ac (tB ac i 0) _ < tB ac i 0; rw [c1]; exact c2)
      have := al_or 0 2 (i - 1)
      have := al_or 1 3 (j' - 1)
      omega
  | succ j ih =>
    intro i j' i' hi hi' e
    obtain ⟨b1, b2, b3⟩ := tB_ok hp4 hcs h i' j' hi'
    obtain ⟨a1, a2, a3⟩ := tB_ok hp4 hcs h i (j + 1) hi
    obtain ⟨f1, f2⟩ := a3 (by omega)
    rw [Nat.add_sub_cancel] at f1 f2
    by_cases c : j' = 0
    · exfalso
      subst c
      obtain ⟨_, _, c3⟩ := tA_ok hp4 hcs h i' (by omega)
      rw [e] at f1 f2
      obtain ⟨d1, d2⟩ := c3 (al 1 3 j) (al_lt (by omega) (by omega) _) (by show ac (tB ac i' 0) _ < tB ac i' 0; rw [f1]; exact f2)
      have := al_or 0 2 (i' - 1)
      have := al_or 1 3 j
      omega
    · obtain ⟨c1, c2⟩ := b3 (by omega)
      have el : al 1 3 j = al 1 3 (j' - 1) := by
        have w1 : ac (tB ac i (j + 1)) (al 1 3 j) < tB ac i (j + 1) := by rw [f1]; exact f2
        have w2 : ac (tB ac i (j + 1)) (al 1 3 (j' - 1)) < tB ac i (j + 1) := by rw [e, c1]; exact c2
        rcases al_or 1 3 j with ⟨x1, _⟩ | ⟨x1, _⟩ <;> rcases al_or 1 3 (j' - 1) with ⟨x2, _⟩ | ⟨x2, _⟩ <;> rw [x1] at w1 ⊢ <;> rw [x2] at w2 ⊢
        · exact (pi_far hp4 h a1 (y := 1) (by omega) (by omega) w1 w2).elim
        · exact (pi_far hp4 h a1 (y := 1) (by omega) (by omega) w2 w1).elim
      have e2 : tB ac i j = tB ac i' (j' - 1) := by rw [← f1, ← c1, e, el]
      obtain ⟨k1, k2⟩ := ih i (j' - 1) i' (by omega) (by omega) e2
      omega
/-- there is no room for 64 rings -/
theorem pi_63 (hp4 : 4 ≤ p) (hcs : ∀ j, j < p → cs j < 10 ∧ cs j ≠ 1) (h : pi_t p cs n ac rg V1 V2 t s) : rg t < 63 := by
  by_cases e : rg t < 63
  · exact e
  · exfalso
    have n2 : n ≤ 2000 := h.1.2.1
    have := inj_le n 2080 (fun k => if k % 65 < 64 - k / 65 then tB ac (k / 65) (k % 65) else tB ac (63 - k / 65) (k % 65 - (64 - k / 65))) (fun k hk => by
      show (if k % 65 < 64 - k / 65 then tB ac (k / 65) (k % 65) else tB ac (63 - k / 65) (k % 65 - (64 - k / 65))) < n
      by_cases c : k % 65 < 64 - k / 65
      · rw [if_pos c]; exact (tB_ok hp4 hcs h _ _ (by omega)).1
      · rw [if_neg c]; exact (tB_ok hp4 hcs h _ _ (by omega)).1) (fun i j hi hj hf => by
      have hf' : (if i % 65 < 64 - i / 65 then tB ac (i / 65) (i % 65) else tB ac (63 - i / 65) (i % 65 - (64 - i / 65))) = (if j % 65 < 64 - j / 65 then tB ac (j / 65) (j % 65) else tB ac (63 - j / 65) (j % 65 - (64 - j / 65))) := hf
      by_cases c : i % 65 < 64 - i / 65 <;> by_cases c2 : j % 65 < 64 - j / 65
      · rw [if_pos c, if_pos c2] at hf'
        have := tB_inj hp4 hcs h _ _ _ _ (by omega) (by omega) hf'; omega
      · rw [if_pos c, if_neg c2] at hf'
        have := tB_inj hp4 hcs h _ _ _ _ (by omega) (by omega) hf'; omega
      · rw [if_neg c, if_pos c2] at hf'
        have := tB_inj hp4 hcs h _ _ _ _ (by omega) (by omega) hf'; omega
      · rw [if_neg c, if_neg c2] at hf'
        have := tB_inj hp4 hcs h _ _ _ _ (by omega) (by omega) hf'; omega)
    omega
/-- what is left to know of a board of four sides or more: no two tiles have the same vector -/
theorem pi_ok (hp4 : 4 ≤ p) (hcs : ∀ j, j < p → cs j < 10 ∧ cs j ≠ 1) (hno : ∀ n ac rg V1 V2 t s, pi_t p cs n ac rg V1 V2 t s → s < p → ¬ ac t s < 2000 → ∀ u, u < n → ¬ rv_e p (V1 u) (V2 u) (rv_w1 p cs V1 t s) (rv_w2 p cs V2 t s)) : pg_ok p cs (pi_t p cs) := by
  refine ⟨pi_0, fun n ac rg V1 V2 t s h => ⟨⟨h.1.1, h.1.2.2.2.2, pi_63 hp4 hcs h, h.2.1.1⟩, fun e => ?_, fun hs ha => ⟨fun hl => h.2.2.2.2.1 t s h.1.1 hs hl ha, pi_s h hs ha⟩, fun hs ha => ⟨hno n ac rg V1 V2 t s h hs ha, fun hn => ?_⟩⟩⟩
  · subst e; exact pi_r hp4 h
  · obtain ⟨q1, q2⟩ := pi_pf hp4 hcs h hs hn ha
    exact ⟨q1, q2, pi_new hp4 hcs h hs hn ha⟩
end PU2
