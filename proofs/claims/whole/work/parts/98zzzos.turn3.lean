/-! ===== three sides, faster (2): the vector over both sides of a corner ===== -/
theorem turn3 {p n t s : Nat} {ac : Nat → Nat → Nat} {cs : Nat → Nat} {V1 V2 : Nat → Nat → Nat} (hV : ∀ x y, x < n → y < p → x < ac x y → ac x y < 2000 → rv_e p (V1 (ac x y)) (V2 (ac x y)) (rv_w1 p cs V1 x y) (rv_w2 p cs V2 x y)) (hlt : ∀ x j, x < n → j < p → V1 x j < an_P1 ∧ V2 x j < an_P2) {f r m a b z : Nat} (ht : t < n) (hf : f < n) (ha : a < p) (hb : b < p) (hab : a ≠ b) (hm2 : 2 ≤ m) (hm : m < 10) (hc : an_m p cs a b = m ∧ an_m p cs b a = m) (hs : al a b (m - 1) = s) (hr : al b a (m - 1) = r) (h1 : up ac a b z (m - 1) t) (h2 : up ac b a z (m - 1) f) : rv_e p (rv_w1 p cs V1 t s) (rv_w2 p cs V2 t s) (rv_w1 p cs V1 f r) (rv_w2 p cs V2 f r) := by
  obtain ⟨q, q1, q2, q3⟩ := up_row h1
  obtain ⟨q', q1', q2', q3'⟩ := up_row h2
  have qn : ∀ k, k ≤ m - 1 → q k < n := fun k hk => by
    by_cases e : k < m - 1
    · have := q3 k e; omega
    · rw [show k = m - 1 by omega, q2]; exact ht
  have qn' : ∀ k, k ≤ m - 1 → q' k < n := fun k hk => by
    by_cases e : k < m - 1
    · have := q3' k e; omega
    · rw [show k = m - 1 by omega, q2']; exact hf
  have e1 : ∀ k, k < m - 1 → rv_e p (V1 (q (k + 1))) (V2 (q (k + 1))) (rv_w1 p cs V1 (q k) (al a b k)) (rv_w2 p cs V2 (q k) (al a b k)) := fun k hk => by
    obtain ⟨g1, g2, g3, g4⟩ := q3 k hk
    have := hV (q k) (al a b k) (qn k (by omega)) (al_lt ha hb k) (by rw [g4]; exact g1) (by rw [g4]; exact g2)
    rw [g4] at this; exact this
  have e1' : ∀ k, k < m - 1 → rv_e p (V1 (q' (k + 1))) (V2 (q' (k + 1))) (rv_w1 p cs V1 (q' k) (al b a k)) (rv_w2 p cs V2 (q' k) (al b a k)) := fun k hk => by
    obtain ⟨g1, g2, g3, g4⟩ := q3' k hk
    have := hV (q' k) (al b a k) (qn' k (by omega)) (al_lt hb ha k) (by rw [g4]; exact g1) (by rw [g4]; exact g2)
    rw [g4] at this; exact this
  intro j hj
  constructor
  · have := bz_both (P := an_P1) (p := p) (c := fun l j => an_c1 (an_m p cs l j)) (r := a) (s := b) ha hb hab (by show an_c1 (an_m p cs a b) = an_c1 (an_m p cs b a); rw [hc.1, hc.2]) (A := fun k => if k = m then rv_w1 p cs V1 t s else V1 (q k)) (B := fun k => if k = m then rv_w1 p cs V1 f r else V1 (q' k)) (m := m) (fun j hj => by
      show (if 0 = m then _ else V1 (q 0)) j = (if 0 = m then _ else V1 (q' 0)) j
      rw [if_neg (by omega), if_neg (by omega), q1, q1']) (fun k hk j hj => by
      show (if k + 1 = m then rv_w1 p cs V1 t s else V1 (q (k + 1))) j = tn_r an_P1 _ (if k = m then _ else V1 (q k)) (al a b k) j
      rw [if_neg (show ¬ k = m by omega)]
      by_cases e : k + 1 = m
      · rw [if_pos e, show k = m - 1 by omega, q2, hs]; rfl
      · rw [if_neg e]; exact (e1 k (by omega) j hj).1) (fun k hk j hj => by
      show (if k + 1 = m then rv_w1 p cs V1 f r else V1 (q' (k + 1))) j = tn_r an_P1 _ (if k = m then _ else V1 (q' k)) (al b a k) j
      rw [if_neg (show ¬ k = m by omega)]
      by_cases e : k + 1 = m
      · rw [if_pos e, show k = m - 1 by omega, q2', hr]; rfl
      · rw [if_neg e]; exact (e1' k (by omega) j hj).1) (fun k hk j hj => by
      show (if k = m then rv_w1 p cs V1 t s else V1 (q k)) j < an_P1
      by_cases e : k = m
      · rw [if_pos e]; exact tn_r_lt (by decide) _ _ _ _
      · rw [if_neg e]; exact (hlt _ j (qn k (by omega)) hj).1) (fun k hk j hj => by
      show (if k = m then rv_w1 p cs V1 f r else V1 (q' k)) j < an_P1
      by_cases e : k = m
      · rw [if_pos e]; exact tn_r_lt (by decide) _ _ _ _
      · rw [if_neg e]; exact (hlt _ j (qn' k (by omega)) hj).1) (by show (bq an_P1 (an_c1 (an_m p cs a b)) m _ && bq an_P1 (an_c1 (an_m p cs a b)) m _) = true; rw [hc.1]; exact bq_1 ⟨m, hm⟩ hm2) j hj
    have this' : (if m = m then rv_w1 p cs V1 t s else V1 (q m)) j = (if m = m then rv_w1 p cs V1 f r else V1 (q' m)) j := this
    rw [if_pos rfl, if_pos rfl] at this'; exact this'
  · have := bz_both (P := an_P2) (p := p) (c := fun l j => an_c2 (an_m p cs l j)) (r := a) (s := b) ha hb hab (by show an_c2 (an_m p cs a b) = an_c2 (an_m p cs b a); rw [hc.1, hc.2]) (A := fun k => if k = m then rv_w2 p cs V2 t s else V2 (q k)) (B := fun k => if k = m then rv_w2 p cs V2 f r else V2 (q' k)) (m := m) (fun j hj => by
      show (if 0 = m then _ else V2 (q 0)) j = (if 0 = m then _ else V2 (q' 0)) j
      rw [if_neg (by omega), if_neg (by omega), q1, q1']) (fun k hk j hj => by
      show (if k + 1 = m then rv_w2 p cs V2 t s else V2 (q (k + 1))) j = tn_r an_P2 _ (if k = m then _ else V2 (q k)) (al a b k) j
      rw [if_neg (show ¬ k = m by omega)]
      by_cases e : k + 1 = m
      · rw [if_pos e, show k = m - 1 by omega, q2, hs]; rfl
      · rw [if_neg e]; exact (e1 k (by omega) j hj).2) (fun k hk j hj => by
      show (if k + 1 = m then rv_w2 p cs V2 f r else V2 (q' (k + 1))) j = tn_r an_P2 _ (if k = m then _ else V2 (q' k)) (al b a k) j
      rw [if_neg (show ¬ k = m by omega)]
      by_cases e : k + 1 = m
      · rw [if_pos e, show k = m - 1 by omega, q2', hr]; rfl
      · rw [if_neg e]; exact (e1' k (by omega) j hj).2) (fun k hk j hj => by
      show (if k = m then rv_w2 p cs V2 t s else V2 (q k)) j < an_P2
      by_cases e : k = m
      · rw [if_pos e]; exact tn_r_lt (by decide) _ _ _ _
      · rw [if_neg e]; exact (hlt _ j (qn k (by omega)) hj).2) (fun k hk j hj => by
      show (if k = m then rv_w2 p cs V2 f r else V2 (q' k)) j < an_P2
      by_cases e : k = m
      · rw [if_pos e]; exact tn_r_lt (by decide) _ _ _ _
      · rw [if_neg e]; exact (hlt _ j (qn' k (by omega)) hj).2) (by show (bq an_P2 (an_c2 (an_m p cs a b)) m _ && bq an_P2 (an_c2 (an_m p cs a b)) m _) = true; rw [hc.1]; exact bq_2 ⟨m, hm⟩ hm2) j hj
    have this' : (if m = m then rv_w2 p cs V2 t s else V2 (q m)) j = (if m = m then rv_w2 p cs V2 f r else V2 (q' m)) j := this
    rw [if_pos rfl, if_pos rfl] at this'; exact this'
