/-! ===== the plane under way: what holds from side to side (four sides or more) ===== -/
def pi_t (p : Nat) (cs : Nat → Nat) (n : Nat) (ac : Nat → Nat → Nat) (rg : Nat → Nat) (V1 V2 : Nat → Nat → Nat) (t s : Nat) : Prop :=
  (t < n ∧ n ≤ 2000 ∧ s ≤ p ∧ rg 0 = 0 ∧ pg_g p n ac rg) ∧
  ((∀ x y, x < t → y < p → ac x y < 2000) ∧ (∀ y, y < s → ac t y < 2000) ∧ (∀ x, x < n → rg x ≤ rg t + 1) ∧ ∀ x, 0 < x → x < n → ∃ y, y < p ∧ ac x y < x) ∧
  (∀ x y y', x < n → y < p → y' < p → ac x y < x → ac x y' < x → y = y' ∨ y' = (y + 1) % p ∨ y = (y' + 1) % p) ∧
  (∀ x a, x < n → a < p → res ac x a ((a + 1) % p) (cs a)) ∧
  (∀ x y, x < n → y < p → x < ac x y → ac x y < 2000 → rv_e p (V1 (ac x y)) (V2 (ac x y)) (rv_w1 p cs V1 x y) (rv_w2 p cs V2 x y)) ∧
  (∀ x j, x < n → j < p → V1 x j < an_P1 ∧ V2 x j < an_P2) ∧ ∀ j, V1 0 j = 1 ∧ V2 0 j = 1
theorem md_1 {p s : Nat} (hs : s < p) : (s + 1) % p = s + 1 ∧ s + 1 < p ∨ (s + 1) % p = 0 ∧ s + 1 = p := by
  by_cases e : s + 1 = p
  · right; rw [e, Nat.mod_self]; exact ⟨rfl, rfl⟩
  · left; exact ⟨Nat.mod_eq_of_lt (by omega), by omega⟩
theorem md_2 {p s : Nat} (hs : s < p) : (s + p - 1) % p = s - 1 ∧ 0 < s ∨ (s + p - 1) % p = p - 1 ∧ s = 0 := by
  by_cases e : s = 0
  · right; rw [e, Nat.zero_add]; exact ⟨Nat.mod_eq_of_lt (by omega), rfl⟩
  · left; rw [show s + p - 1 = (s - 1) + p from by omega, Nat.add_mod_right]; exact ⟨Nat.mod_eq_of_lt (by omega), by omega⟩
theorem md_3 {p s : Nat} (hs : s < p) : ((s + p - 1) % p + 1) % p = s := by
  rcases md_2 hs with ⟨h, h'⟩ | ⟨h, h'⟩ <;> rw [h]
  · rw [show s - 1 + 1 = s by omega]; exact Nat.mod_eq_of_lt hs
  · rw [show p - 1 + 1 = p by omega, Nat.mod_self, h']
section NBX
variable {p n t s : Nat} {ac : Nat → Nat → Nat} {rg : Nat → Nat} {cs : Nat → Nat} {V1 V2 : Nat → Nat → Nat}
theorem nb_a2_x (ht : t < n) (hn : n < 2000) {x y : Nat} (hx : x < n) : nb_a2 ac n t s x y = if x = t ∧ y = s then n else ac x y := by
  unfold nb_a2 ac_jn ac_j
  rw [if_pos (show t < 2000 by omega)]
  show (if x = n ∧ y = s then t else if x = t ∧ y = s then n else if x = n then 2000 else ac x y) = _
  rw [if_neg (by omega), if_neg (show ¬ x = n by omega)]
theorem nb_a3_x (ht : t < n) (hn : n < 2000) {x y : Nat} (hx : x < n) : nb_a3 p cs ac rg n t s x y = if (nb_f1 p cs ac rg n t s < 2000 ∧ x = nb_f1 p cs ac rg n t s ∧ y = (s + 1) % p) ∨ (x = t ∧ y = s) then n else ac x y := by
  unfold nb_a3 ac_jn ac_j
  by_cases f : nb_f1 p cs ac rg n t s < 2000
  · rw [if_pos f]
    show (if x = n ∧ y = (s + 1) % p then _ else if x = _ ∧ y = _ then n else nb_a2 ac n t s x y) = _
    rw [if_neg (fun z => absurd z.1 (by omega)), nb_a2_x ht hn hx]
    by_cases e : x = nb_f1 p cs ac rg n t s ∧ y = (s + 1) % p
    · rw [if_pos e, if_pos (Or.inl ⟨f, e⟩)]
    · rw [if_neg e]
      by_cases e2 : x = t ∧ y = s
      · rw [if_pos e2, if_pos (Or.inr e2)]
      · rw [if_neg e2, if_neg (fun z => z.elim (fun z => e z.2) e2)]
  · rw [if_neg f, nb_a2_x ht hn hx]
    by_cases e2 : x = t ∧ y = s
    · rw [if_pos e2, if_pos (Or.inr e2)]
    · rw [if_neg e2, if_neg (fun z => z.elim (fun z => f z.1) e2)]
theorem an_m_1 (hp : 3 ≤ p) (hs : s < p) : an_m p cs s ((s + 1) % p) = cs s ∧ an_m p cs ((s + 1) % p) s = cs s := by
  unfold an_m
  rw [if_pos rfl]
  refine ⟨rfl, ?_⟩
  rw [if_neg, if_pos rfl]
  rcases md_1 hs with ⟨h, h'⟩ | ⟨h, h'⟩ <;> rw [h]
  · rcases md_1 h' with ⟨g, g'⟩ | ⟨g, g'⟩ <;> rw [g] <;> omega
  · rw [Nat.mod_eq_of_lt (by omega)]; omega
/-- the vector over both sides of a corner -/
theorem pi_turn {t0 s0 : Nat} (h : pi_t p cs n ac rg V1 V2 t0 s0) {f r m a b z : Nat} (ht : t < n) (hf : f < n) (ha : a < p) (hb : b < p) (hab : a ≠ b) (hm2 : 2 ≤ m) (hm : m < 10) (hc : an_m p cs a b = m ∧ an_m p cs b a = m) (hs : al a b (m - 1) = s) (hr : al b a (m - 1) = r) (h1 : up ac a b z (m - 1) t) (h2 : up ac b a z (m - 1) f) : rv_e p (rv_w1 p cs V1 t s) (rv_w2 p cs V2 t s) (rv_w1 p cs V1 f r) (rv_w2 p cs V2 f r) := by
  obtain ⟨⟨_, n2, _⟩, _, _, _, hV, hlt, _⟩ := h
  obtain ⟨q, q1, q2, q3⟩ := up_row h1
  obtain ⟨q', q1', q2', q3'⟩ := up_row h2
  have qn : ∀ k, k ≤ m - 1 → q k < n := fun k hk => by
    by_cases e : k < m - 1
    · have := q3 k e; omega
    · rw [show k = m - 1 by omega, q2]; exact ht
  have qn' : ∀ k, k ≤ m - 1 → q' k < n := fun k hk => by
    by_cases e : k < m - 1
    · have := q3' k e; omega
    · rw [show k = m - 1 by omega, q2']; exact hf
  have e1 : ∀ k, k < m - 1 → rv_e p (V1 (q (k + 1))) (V2 (q (k + 1))) (rv_w1 p cs V1 (q k) (al a b k)) (rv_w2 p cs V2 (q k) (al a b k)) := fun k hk => by
    obtain ⟨g1, g2, g3, g4⟩ := q3 k hk
    have := hV (q k) (al a b k) (qn k (by omega)) (al_lt ha hb k) (by rw [g4]; exact g1) (by rw [g4]; exact g2)
    rw [g4] at this; exact this
  have e1' : ∀ k, k < m - 1 → rv_e p (V1 (q' (k + 1))) (V2 (q' (k + 1))) (rv_w1 p cs V1 (q' k) (al b a k)) (rv_w2 p cs V2 (q' k) (al b a k)) := fun k hk => by
    obtain ⟨g1, g2, g3, g4⟩ := q3' k hk
    have := hV (q' k) (al b a k) (qn' k (by omega)) (al_lt hb ha k) (by rw [g4]; exact g1) (by rw [g4]; exact g2)
    rw [g4] at this; exact this
  intro j hj
  constructor
  · have := bz_both (P := an_P1) (p := p) (c := fun l j => an_c1 (an_m p cs l j)) (r := a) (s := b) ha hb hab (by show an_c1 (an_m p cs a b) = an_c1 (an_m p cs b a); rw [hc.1, hc.2]) (A := fun k => if k = m then rv_w1 p cs V1 t s else V1 (q k)) (B := fun k => if k = m then rv_w1 p cs V1 f r else V1 (q' k)) (m := m) (fun j hj => by
      show (if 0 = m then _ else V1 (q 0)) j = (if 0 = m then _ else V1 (q' 0)) j
      rw [if_neg (by omega), if_neg (by omega), q1, q1']) (fun k hk j hj => by
      show (if k + 1 = m then rv_w1 p cs V1 t s else V1 (q (k + 1))) j = tn_r an_P1 _ (if k = m then _ else V1 (q k)) (al a b k) j
      rw [if_neg (show ¬ k = m by omega)]
      by_cases e : k + 1 = m
      · rw [if_pos e, show k = m - 1 by omega, q2, hs]; rfl
      · rw [if_neg e]; exact (e1 k (by omega) j hj).1) (fun k hk j hj => by
      show (if k + 1 = m then rv_w1 p cs V1 f r else V1 (q' (k + 1))) j = tn_r an_P1 _ (if k = m then _ else V1 (q' k)) (al b a k) j
      rw [if_neg (show ¬ k = m by omega)]
      by_cases e : k + 1 = m
      · rw [if_pos e, show k = m - 1 by omega, q2', hr]; rfl
      · rw [if_neg e]; exact (e1' k (by omega) j hj).1) (fun k hk j hj => by
      show (if k = m then rv_w1 p cs V1 t s else V1 (q k)) j < an_P1
      by_cases e : k = m
      · rw [if_pos e]; exact tn_r_lt (by decide) _ _ _ _
      · rw [if_neg e]; exact (hlt _ j (qn k (by omega)) hj).1) (fun k hk j hj => by
      show (if k = m then rv_w1 p cs V1 f r else V1 (q' k)) j < an_P1
      by_cases e : k = m
      · rw [if_pos e]; exact tn_r_lt (by decide) _ _ _ _
      · rw [if_neg e]; exact (hlt _ j (qn' k (by omega)) hj).1) (by show (bq an_P1 (an_c1 (an_m p cs a b)) m _ && bq an_P1 (an_c1 (an_m p cs a b)) m _) = true; rw [hc.1]; exact bq_1 ⟨m, hm⟩ hm2) j hj
    have this' : (if m = m then rv_w1 p cs V1 t s else V1 (q m)) j = (if m = m then rv_w1 p cs V1 f r else V1 (q' m)) j := this
    rw [if_pos rfl, if_pos rfl] at this'; exact this'
  · have := bz_both (P := an_P2) (p := p) (c := fun l j => an_c2 (an_m p cs l j)) (r := a) (s := b) ha hb hab (by show an_c2 (an_m p cs a b) = an_c2 (an_m p cs b a); rw [hc.1, hc.2]) (A := fun k => if k = m then rv_w2 p cs V2 t s else V2 (q k)) (B := fun k => if k = m then rv_w2 p cs V2 f r else V2 (q' k)) (m := m) (fun j hj => by
      show (if 0 = m then _ else V2 (q 0)) j = (if 0 = m then _ else V2 (q' 0)) j
      rw [if_neg (by omega), if_neg (by omega), q1, q1']) (fun k hk j hj => by
      show (if k + 1 = m then rv_w2 p cs V2 t s else V2 (q (k + 1))) j = tn_r an_P2 _ (if k = m then _ else V2 (q k)) (al a b k) j
      rw [if_neg (show ¬ k = m by omega)]
      by_cases e : k + 1 = m
      · rw [if_pos e, show k = m - 1 by omega, q2, hs]; rfl
      · rw [if_neg e]; exact (e1 k (by omega) j hj).2) (fun k hk j hj => by
      show (if k + 1 = m then rv_w2 p cs V2 f r else V2 (q' (k + 1))) j = tn_r an_P2 _ (if k = m then _ else V2 (q' k)) (al b a k) j
      rw [if_neg (show ¬ k = m by omega)]
      by_cases e : k + 1 = m
      · rw [if_pos e, show k = m - 1 by omega, q2', hr]; rfl
      · rw [if_neg e]; exact (e1' k (by omega) j hj).2) (fun k hk j hj => by
      show (if k = m then rv_w2 p cs V2 t s else V2 (q k)) j < an_P2
      by_cases e : k = m
      · rw [if_pos e]; exact tn_r_lt (by decide) _ _ _ _
      · rw [if_neg e]; exact (hlt _ j (qn k (by omega)) hj).2) (fun k hk j hj => by
      show (if k = m then rv_w2 p cs V2 f r else V2 (q' k)) j < an_P2
      by_cases e : k = m
      · rw [if_pos e]; exact tn_r_lt (by decide) _ _ _ _
      · rw [if_neg e]; exact (hlt _ j (qn' k (by omega)) hj).2) (by show (bq an_P2 (an_c2 (an_m p cs a b)) m _ && bq an_P2 (an_c2 (an_m p cs a b)) m _) = true; rw [hc.1]; exact bq_2 ⟨m, hm⟩ hm2) j hj
    have this' : (if m = m then rv_w2 p cs V2 t s else V2 (q m)) j = (if m = m then rv_w2 p cs V2 f r else V2 (q' m)) j := this
    rw [if_pos rfl, if_pos rfl] at this'; exact this'
end NBX
