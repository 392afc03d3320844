/-! ===== the plane under way: a new tile ===== -/
section PN1
variable {p n t s : Nat} {ac : Nat → Nat → Nat} {rg : Nat → Nat} {cs : Nat → Nat} {V1 V2 : Nat → Nat → Nat}
theorem pi_low (h : pi_t p cs n ac rg V1 V2 t s) : ∀ x y, x < n → rg x < rg t → y < p → ac x y < 2000 := fun x y hx hl hy => by
  obtain ⟨⟨_, _, _, _, hg⟩, ⟨h1, _⟩, _⟩ := h
  refine h1 x y ?_ hy
  by_cases e : x < t
  · exact e
  · have := hg.2 t x (by omega) hx
    omega
/-- what joins the new tile on both sides -/
theorem pi_f (hp4 : 4 ≤ p) (hcs : ∀ j, j < p → cs j < 10 ∧ cs j ≠ 1) (h : pi_t p cs n ac rg V1 V2 t s) (hs : s < p) (hn : n < 2000) (ha : ¬ ac t s < 2000) :
    ((¬ nb_f1 p cs ac rg n t s < 2000 ∧ ∃ a b z k, (a = s ∧ b = (s + 1) % p ∨ a = (s + 1) % p ∧ b = s) ∧ (¬ ac z a < z ∧ ¬ ac z b < z) ∧ (cs s = 0 ∨ k + 1 < cs s) ∧ al a b k = s ∧ up ac a b z k t) ∨
    (nb_f1 p cs ac rg n t s < n ∧ 2 ≤ cs s ∧ ac t ((s + 1) % p) < t ∧ ¬ ac (nb_f1 p cs ac rg n t s) ((s + 1) % p) < 2000 ∧ ac (nb_f1 p cs ac rg n t s) s < nb_f1 p cs ac rg n t s ∧ rg (nb_f1 p cs ac rg n t s) = rg t ∧ ∃ a b z, (a = s ∧ b = (s + 1) % p ∨ a = (s + 1) % p ∧ b = s) ∧ (¬ ac z a < z ∧ ¬ ac z b < z) ∧ al a b (cs s - 1) = s ∧ up ac a b z (cs s - 1) t ∧ up ac b a z (cs s - 1) (nb_f1 p cs ac rg n t s))) ∧
    ((¬ nb_f2 p cs ac rg n t s < 2000 ∧ ∃ a b z k, (a = s ∧ b = (s + p - 1) % p ∨ a = (s + p - 1) % p ∧ b = s) ∧ (¬ ac z a < z ∧ ¬ ac z b < z) ∧ (cs ((s + p - 1) % p) = 0 ∨ k + 1 < cs ((s + p - 1) % p)) ∧ al a b k = s ∧ up ac a b z k t) ∨
    (nb_f2 p cs ac rg n t s < n ∧ 2 ≤ cs ((s + p - 1) % p) ∧ ac t ((s + p - 1) % p) < t ∧ ¬ ac (nb_f2 p cs ac rg n t s) ((s + p - 1) % p) < 2000 ∧ ac (nb_f2 p cs ac rg n t s) s < nb_f2 p cs ac rg n t s ∧ rg (nb_f2 p cs ac rg n t s) = rg t ∧ ∃ a b z, (a = s ∧ b = (s + p - 1) % p ∨ a = (s + p - 1) % p ∧ b = s) ∧ (¬ ac z a < z ∧ ¬ ac z b < z) ∧ al a b (cs ((s + p - 1) % p) - 1) = s ∧ up ac a b z (cs ((s + p - 1) % p) - 1) t ∧ up ac b a z (cs ((s + p - 1) % p) - 1) (nb_f2 p cs ac rg n t s))) := by
  have hlow := pi_low h
  obtain ⟨⟨ht, n2, _, _, hg⟩, ⟨_, _, hrg, _⟩, _, hres, _⟩ := h
  obtain ⟨o1, o2, o3, o4, o5⟩ := nb_sides (show 3 ≤ p by omega) hs
  have rgx : ∀ x, x < n → nb_rg rg n t x = rg x := fun x hx => if_neg (by omega)
  have rgn : nb_rg rg n t n = rg t + 1 := if_pos rfl
  have ag2 : agr p n ac rg (nb_a2 ac n t s) (nb_rg rg n t) := by
    refine ⟨fun x y hx hy hz => ?_, fun x y hx hy hz => ?_, rgx⟩
    · rw [nb_a2_x ht hn hx, if_neg]
      intro c
      rw [c.1, c.2] at hz
      exact ha hz
    · rw [nb_a2_x ht hn hx]
      by_cases c : x = t ∧ y = s
      · rw [if_pos c, rgn, rgx x hx]
        have := hrg x hx
        omega
      · rw [if_neg c]
        exact fun z => hz z.1
  have k1 := cr_pair (m := cs s) hg n2 ag2 hs o4 (fun e => o1 e.symm) (fun x hx => hres x s hx hs) (hcs s hs).2 ht ha hlow
  refine ⟨k1, ?_⟩
  have g1 : nb_f1 p cs ac rg n t s < 2000 → ¬ ac (nb_f1 p cs ac rg n t s) ((s + 1) % p) < 2000 := fun hz => by
    rcases k1 with ⟨q, _⟩ | ⟨_, _, _, q, _⟩
    · exact absurd hz q
    · exact q
  have ag3 : agr p n ac rg (nb_a3 p cs ac rg n t s) (nb_rg rg n t) := by
    refine ⟨fun x y hx hy hz => ?_, fun x y hx hy hz => ?_, rgx⟩
    · rw [nb_a3_x ht hn hx, if_neg]
      intro c
      rcases c with c | c
      · rw [c.2.1, c.2.2] at hz
        exact g1 c.1 hz
      · rw [c.1, c.2] at hz
        exact ha hz
    · rw [nb_a3_x ht hn hx]
      by_cases c : (nb_f1 p cs ac rg n t s < 2000 ∧ x = nb_f1 p cs ac rg n t s ∧ y = (s + 1) % p) ∨ (x = t ∧ y = s)
      · rw [if_pos c, rgn, rgx x hx]
        have := hrg x hx
        omega
      · rw [if_neg c]
        exact fun z => hz z.1
  exact cr_pair (m := cs ((s + p - 1) % p)) hg n2 ag3 hs o5 (fun e => o2 e.symm) (fun x hx => res_symm (by
    have := hres x ((s + p - 1) % p) hx o5
    rw [md_3 hs] at this
    exact this)) (hcs _ o5).2 ht ha hlow
/-- not both -/
theorem pi_one (hp4 : 4 ≤ p) (h : pi_t p cs n ac rg V1 V2 t s) (hs : s < p) (h1 : ac t ((s + 1) % p) < t) (h2 : ac t ((s + p - 1) % p) < t) : False := by
  obtain ⟨⟨ht, _⟩, _, hadj, _⟩ := h
  obtain ⟨o1, o2, o3, o4, o5⟩ := nb_sides (show 3 ≤ p by omega) hs
  have q := hadj t _ _ ht o4 o5 h1 h2
  rw [md_3 hs] at q
  rcases md_1 hs with ⟨e1, e2⟩ | ⟨e1, e2⟩ <;> rcases md_2 hs with ⟨e3, e4⟩ | ⟨e3, e4⟩ <;> rw [e1, e3] at q
  · rcases md_1 e2 with ⟨e5, e6⟩ | ⟨e5, e6⟩ <;> rw [e5] at q <;> omega
  · rcases md_1 e2 with ⟨e5, e6⟩ | ⟨e5, e6⟩ <;> rw [e5] at q <;> omega
  · rw [Nat.mod_eq_of_lt (show 0 + 1 < p by omega)] at q; omega
  · rw [Nat.mod_eq_of_lt (show 0 + 1 < p by omega)] at q; omega
theorem pi_pf (hp4 : 4 ≤ p) (hcs : ∀ j, j < p → cs j < 10 ∧ cs j ≠ 1) (h : pi_t p cs n ac rg V1 V2 t s) (hs : s < p) (hn : n < 2000) (ha : ¬ ac t s < 2000) : pg_f ac n t (nb_f1 p cs ac rg n t s) ((s + 1) % p) ∧ pg_f ac n t (nb_f2 p cs ac rg n t s) ((s + p - 1) % p) := by
  obtain ⟨k1, k2⟩ := pi_f hp4 hcs h hs hn ha
  obtain ⟨⟨ht, n2, _, _, hg⟩, ⟨hall, _⟩, _⟩ := h
  obtain ⟨o1, o2, o3, o4, o5⟩ := nb_sides (show 3 ≤ p by omega) hs
  constructor
  · intro hz
    rcases k1 with ⟨q, _⟩ | ⟨q1, _, _, q4, q5, _⟩
    · exact absurd hz q
    · refine ⟨?_, q1, q4⟩
      have n1 : ¬ nb_f1 p cs ac rg n t s < t := fun c => q4 (hall _ _ c o4)
      have n3 : nb_f1 p cs ac rg n t s ≠ t := fun c => by
        rw [c] at q5
        omega
      omega
  · intro hz
    rcases k2 with ⟨q, _⟩ | ⟨q1, _, _, q4, q5, _⟩
    · exact absurd hz q
    · refine ⟨?_, q1, q4⟩
      have n1 : ¬ nb_f2 p cs ac rg n t s < t := fun c => q4 (hall _ _ c o5)
      have n3 : nb_f2 p cs ac rg n t s ≠ t := fun c => by
        rw [c] at q5
        omega
      omega
theorem res_mono {ac' : Nat → Nat → Nat} {x a b m : Nat} (ha : a < p) (hb : b < p) (hx : x < n) (h1 : ∀ x y, x < n → y < p → ac x y < 2000 → ac' x y = ac x y) (h2 : ∀ x y, x < n → y < p → ¬ ac x y < x → ¬ ac' x y < x) (h : res ac x a b m) : res ac' x a b m := by
  obtain ⟨z, k, f1, f2, h3⟩ := h
  have zx : z ≤ x := by
    rcases h3 with ⟨_, e⟩ | ⟨_, _, h6⟩ | ⟨_, _, h6, _⟩
    · omega
    · rcases h6 with ⟨g, _⟩ | ⟨g, _⟩
      · have := up_le g; omega
      · have := up_le g; omega
    · have := up_le h6; omega
  refine ⟨z, k, h2 z a (by omega) ha f1, h2 z b (by omega) hb f2, ?_⟩
  rcases h3 with h | ⟨h4, h5, h6⟩ | ⟨h4, h5, h6, h7⟩
  · exact Or.inl h
  · refine Or.inr (Or.inl ⟨h4, h5, ?_⟩)
    rcases h6 with ⟨g1, g2⟩ | ⟨g1, g2⟩
    · exact Or.inl ⟨up_mono ha hb h1 hx g1, h2 x _ hx (al_lt ha hb k) g2⟩
    · exact Or.inr ⟨up_mono hb ha h1 hx g1, h2 x _ hx (al_lt hb ha k) g2⟩
  · exact Or.inr (Or.inr ⟨h4, h5, up_mono ha hb h1 hx h6, up_mono hb ha h1 hx h7⟩)
/-- the new tile round its corner with the side that made it -/
theorem res_new {ac' : Nat → Nat → Nat} {r m f : Nat} (hs : s < p) (hr : r < p) (hsr : s ≠ r) (ht : t < n) (hn : n < 2000) (h1 : ∀ x y, x < n → y < p → ac x y < 2000 → ac' x y = ac x y) (h2 : ∀ x y, x < n → y < p → ¬ ac x y < x → ¬ ac' x y < x) (e1 : ac' n s = t) (e2 : ac' t s = n)
    (h : (¬ f < 2000 ∧ ∃ a b z k, (a = s ∧ b = r ∨ a = r ∧ b = s) ∧ (¬ ac z a < z ∧ ¬ ac z b < z) ∧ (m = 0 ∨ k + 1 < m) ∧ al a b k = s ∧ up ac a b z k t) ∨ (f < n ∧ 2 ≤ m ∧ ac t r < t ∧ ¬ ac f r < 2000 ∧ ac f s < f ∧ rg f = rg t ∧ ∃ a b z, (a = s ∧ b = r ∨ a = r ∧ b = s) ∧ (¬ ac z a < z ∧ ¬ ac z b < z) ∧ al a b (m - 1) = s ∧ up ac a b z (m - 1) t ∧ up ac b a z (m - 1) f))
    (e3 : ¬ f < 2000 → ¬ ac' n r < n) (e4 : f < 2000 → ac' n r = f ∧ ac' f r = n) : res ac' n s r m := by
  rcases h with ⟨q0, a, b, z, k, q1, q2, q3, q4, q5⟩ | ⟨q0, q6, _, _, _, _, a, b, z, q1, q2, q3, q4, q5⟩
  · have ha : a < p := by omega
    have hb : b < p := by omega
    have zt := up_le q5
    have u : up ac' a b z (k + 1) n := ⟨t, up_mono ha hb h1 ht q5, ht, hn, by rw [q4]; exact e1, by rw [q4]; exact e2⟩
    have er : al a b (k + 1) = r := by
      rw [al_s]
      rcases al_or a b k with ⟨g1, g2⟩ | ⟨g1, g2⟩ <;> omega
    have fa := h2 z a (by omega) ha q2.1
    have fb := h2 z b (by omega) hb q2.2
    have nd := e3 q0
    rw [← er] at nd
    rcases q1 with ⟨x1, x2⟩ | ⟨x1, x2⟩
    · subst x1; subst x2
      exact ⟨z, k + 1, fa, fb, Or.inr (Or.inl ⟨by omega, q3, Or.inl ⟨u, nd⟩⟩)⟩
    · subst x1; subst x2
      exact ⟨z, k + 1, fb, fa, Or.inr (Or.inl ⟨by omega, q3, Or.inr ⟨u, nd⟩⟩)⟩
  · have ha : a < p := by omega
    have hb : b < p := by omega
    have zt := up_le q4
    obtain ⟨e5, e6⟩ := e4 (by omega)
    have er : al b a (m - 1) = r := by
      rcases al_or a b (m - 1) with ⟨g1, g2⟩ | ⟨g1, g2⟩ <;> omega
    have u : up ac' a b z m n := by
      rw [show m = (m - 1) + 1 by omega]
      exact ⟨t, up_mono ha hb h1 ht q4, ht, hn, by rw [q3]; exact e1, by rw [q3]; exact e2⟩
    have u' : up ac' b a z m n := by
      rw [show m = (m - 1) + 1 by omega]
      exact ⟨f, up_mono hb ha h1 q0 q5, q0, hn, by rw [er]; exact e5, by rw [er]; exact e6⟩
    have fa := h2 z a (by omega) ha q2.1
    have fb := h2 z b (by omega) hb q2.2
    rcases q1 with ⟨x1, x2⟩ | ⟨x1, x2⟩
    · subst x1; subst x2
      exact ⟨z, m, fa, fb, Or.inr (Or.inr ⟨by omega, rfl, u, u'⟩)⟩
    · subst x1; subst x2
      exact ⟨z, m, fb, fa, Or.inr (Or.inr ⟨by omega, rfl, u', u⟩)⟩
/-- and round the corner on the other side of the side that joins it -/
theorem res_side {ac' : Nat → Nat → Nat} {r q m f : Nat} (hm1 : m ≠ 1) (hf : f < n) (hn : n < 2000) (e5 : ac' n r = f) (e6 : ac' f r = n) (nq : ¬ ac' f q < f) (nn : ¬ ac' n q < n) : res ac' n r q m := by
  refine ⟨f, 1, ?_, nq, Or.inr (Or.inl ⟨by omega, by omega, Or.inl ⟨⟨f, rfl, hf, hn, e5, e6⟩, nn⟩⟩)⟩
  rw [e6]; omega
theorem res_foot {ac' : Nat → Nat → Nat} {x a b m : Nat} (h1 : ¬ ac' x a < x) (h2 : ¬ ac' x b < x) : res ac' x a b m := ⟨x, 0, h1, h2, Or.inl ⟨rfl, rfl⟩⟩
end PN1
