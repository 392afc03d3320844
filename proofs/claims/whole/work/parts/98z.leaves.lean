/-! ===== closed boards: the drafts that are come to ===== -/
/-- a draft that goes round all corners -/
def cb_lf (n p : Nat) (cs : Nat → Nat) (a : List Nat) : Prop := a.length = p ∧ cb_ok n p a ∧ ∀ s, s < p → cb_okb n (cs s) (a.getD s 0) (a.getD ((s + 1) % p) 0) = true
section CL1
variable {n p : Nat} {cs : Nat → Nat}
theorem cb_lv_mem : ∀ (r : Nat) (a0 a : List Nat), a ∈ cb_lv n p cs r a0 ↔ ∃ e : List Nat, a = a0 ++ e ∧ e.length = r ∧ (∀ k, k < r → e.getD k 0 < cb_q n) ∧ ∀ k, k < r → cb_st n p cs (a0 ++ e.take k) (e.getD k 0) = true := by
  intro r
  induction r with
  | zero =>
    intro a0 a
    show a ∈ [a0] ↔ _
    rw [List.mem_singleton]
    constructor
    · exact fun h => ⟨[], by rw [h, List.append_nil], rfl, fun k hk => absurd hk (Nat.not_lt_zero k), fun k hk => absurd hk (Nat.not_lt_zero k)⟩
    · rintro ⟨e, h1, h2, -, -⟩
      rw [h1, List.length_eq_zero_iff.mp h2, List.append_nil]
  | succ r ih =>
    intro a0 a
    show a ∈ (List.range (cb_q n)).flatMap _ ↔ _
    rw [List.mem_flatMap]
    constructor
    · rintro ⟨j, hj, h⟩
      by_cases st : cb_st n p cs a0 j = true
      · rw [if_pos st] at h
        obtain ⟨e, h1, h2, h3, h4⟩ := (ih (a0 ++ [j]) a).mp h
        refine ⟨j :: e, by rw [h1, List.append_assoc]; rfl, by show e.length + 1 = r + 1; rw [h2], fun k hk => ?_, fun k hk => ?_⟩
        · cases k with
          | zero => exact List.mem_range.mp hj
          | succ k => exact h3 k (by omega)
        · cases k with
          | zero => rw [List.take_zero, List.append_nil]; exact st
          | succ k =>
            have := h4 k (by omega)
            rw [List.append_assoc] at this
            exact this
      · rw [if_neg st] at h
        exact absurd h List.not_mem_nil
    · rintro ⟨e, h1, h2, h3, h4⟩
      cases e with
      | nil => exact absurd h2 (by simp)
      | cons j e =>
        have hj : j < cb_q n := h3 0 (by omega)
        have st : cb_st n p cs a0 j = true := by
          have := h4 0 (by omega)
          rw [List.take_zero, List.append_nil] at this
          exact this
        refine ⟨j, List.mem_range.mpr hj, ?_⟩
        rw [if_pos st]
        refine (ih (a0 ++ [j]) a).mpr ⟨e, by rw [h1, List.append_assoc]; rfl, by simpa using h2, fun k hk => h3 (k + 1) (by omega), fun k hk => ?_⟩
        have := h4 (k + 1) (by omega)
        rw [List.append_assoc]
        exact this
theorem cb_lv_leaf (hp : 3 ≤ p) {a : List Nat} : a ∈ cb_lv n p cs p [] ↔ cb_lf n p cs a := by
  rw [cb_lv_mem]
  have tk : ∀ (e : List Nat) (k : Nat), k < e.length → (e.take k).length = k := fun e k hk => by rw [List.length_take]; omega
  have tg : ∀ (e : List Nat) (k j : Nat), j < k → k < e.length → (e.take k).getD j 0 = e.getD j 0 := fun e k j h1 h2 => by
    rw [cb_getD _ _ (by rw [tk e k h2]; exact h1), List.getElem_take, cb_getD _ _ (by omega)]
  constructor
  · rintro ⟨e, h1, h2, h3, h4⟩
    rw [List.nil_append] at h1
    subst h1
    refine ⟨h2, h3, fun s hs => ?_⟩
    by_cases last : s + 1 = p
    · have := (cb_st_iff.mp (h4 s hs)).2
      rw [List.nil_append, tk a s (by omega)] at this
      have := this last
      rw [tg a s 0 (by omega) (by omega)] at this
      have es : p - 1 = s := by omega
      rw [es] at this
      rw [last, Nat.mod_self]
      exact this
    · have := (cb_st_iff.mp (h4 (s + 1) (by omega))).1
      rw [List.nil_append, tk a (s + 1) (by omega)] at this
      have := this.resolve_left (by omega)
      rw [show s + 1 - 1 = s from rfl, tg a (s + 1) s (by omega) (by omega)] at this
      rw [Nat.mod_eq_of_lt (by omega)]
      exact this
  · rintro ⟨h1, h2, h3⟩
    refine ⟨a, (List.nil_append a).symm, h1, h2, fun k hk => cb_st_iff.mpr ⟨?_, fun e => ?_⟩⟩
    · rw [List.nil_append, tk a k (by omega)]
      by_cases e : k = 0
      · exact Or.inl e
      · right
        have := h3 (k - 1) (by omega)
        rw [show k - 1 + 1 = k by omega, Nat.mod_eq_of_lt hk] at this
        rw [tg a k (k - 1) (by omega) (by omega)]
        exact this
    · rw [List.nil_append, tk a k (by omega)] at e
      rw [List.nil_append, tg a k 0 (by omega) (by omega)]
      have := h3 k hk
      rw [e, Nat.mod_self] at this
      rw [show p - 1 = k by omega]
      exact this
theorem cb_lv_nodup : ∀ (r : Nat) (a0 : List Nat), (cb_lv n p cs r a0).Nodup := by
  intro r
  induction r with
  | zero => intro a0; exact List.nodup_cons.mpr ⟨List.not_mem_nil, List.nodup_nil⟩
  | succ r ih =>
    intro a0
    show ((List.range (cb_q n)).flatMap _).Nodup
    refine List.pairwise_flatMap.mpr ⟨fun j _ => ?_, ?_⟩
    · by_cases st : cb_st n p cs a0 j = true
      · rw [if_pos st]; exact ih _
      · rw [if_neg st]; exact List.nodup_nil
    · refine List.Pairwise.imp ?_ (List.nodup_range (n := cb_q n))
      intro i j hij x hx y hy e
      have key : ∀ k z, z ∈ (if cb_st n p cs a0 k then cb_lv n p cs r (a0 ++ [k]) else []) → z.getD a0.length 0 = k := fun k z hz => by
        by_cases st : cb_st n p cs a0 k = true
        · rw [if_pos st] at hz
          obtain ⟨e, h1, -, -, -⟩ := (cb_lv_mem r (a0 ++ [k]) z).mp hz
          rw [h1, List.append_assoc, List.getD_eq_getElem?_getD, List.getElem?_append_right (Nat.le_refl _), Nat.sub_self]
          rfl
        · rw [if_neg st] at hz
          exact absurd hz List.not_mem_nil
      have h1 := key i x hx
      have h2 := key j y hy
      rw [e] at h1
      exact hij (h1.symm.trans h2)
end CL1
section CL2
variable {n p : Nat} {cs : Nat → Nat} {a a1 a2 : List Nat} {ψ : Nat → Nat}
theorem cb_lw_map (hn : n < 7) (h1 : cb_ok n p a1) (h : cb_hm n p a1 a2 ψ) {s s' x : Nat} (hs : s < p) (hs' : s' < p) (hx : x < n) : ∀ (r m y : Nat), y < n → cb_lw ((cb_T n).getD (a1.getD s 0) []) ((cb_T n).getD (a1.getD s' 0) []) x r m y = cb_lw ((cb_T n).getD (a2.getD s 0) []) ((cb_T n).getD (a2.getD s' 0) []) (ψ x) r m (ψ y) := by
  intro r
  induction r with
  | zero => intro m y _; rfl
  | succ r ih =>
    intro m y hy
    have hb := cb_b_lt hn h1 hs hy
    have hb2 := cb_b_lt hn h1 hs' hb
    show (if cb_b n a1 s' (cb_b n a1 s y) = x then m else cb_lw _ _ x r (m + 1) (cb_b n a1 s' (cb_b n a1 s y))) = (if cb_b n a2 s' (cb_b n a2 s (ψ y)) = ψ x then m else cb_lw _ _ (ψ x) r (m + 1) (cb_b n a2 s' (cb_b n a2 s (ψ y))))
    rw [h.2.2 s y hs hy, h.2.2 s' _ hs' hb]
    by_cases e : cb_b n a1 s' (cb_b n a1 s y) = x
    · rw [if_pos e, if_pos (congrArg ψ e)]
    · rw [if_neg e, if_neg (fun q => e (h.2.1 _ _ hb2 hx q))]
      exact ih (m + 1) _ hb2
theorem cb_okb_map (hn : n < 7) (h1 : cb_ok n p a1) (h : cb_hm n p a1 a2 ψ) (hsur : ∀ y, y < n → ∃ x, x < n ∧ ψ x = y) {s s' c : Nat} (hs : s < p) (hs' : s' < p) : cb_okb n c (a1.getD s 0) (a1.getD s' 0) = cb_okb n c (a2.getD s 0) (a2.getD s' 0) := by
  unfold cb_okb
  congr 1
  apply Bool.eq_iff_iff.mpr
  rw [List.all_eq_true, List.all_eq_true]
  constructor
  · intro q y hy
    obtain ⟨x, hx, e⟩ := hsur y (List.mem_range.mp hy)
    have := q x (List.mem_range.mpr hx)
    rw [show cb_lap n (a1.getD s 0) (a1.getD s' 0) x = cb_lap n (a2.getD s 0) (a2.getD s' 0) (ψ x) from cb_lw_map hn h1 h hs hs' hx n 1 x hx, e] at this
    exact this
  · intro q x hx
    have hx := List.mem_range.mp hx
    have := q (ψ x) (List.mem_range.mpr (h.1 x hx))
    rw [← show cb_lap n (a1.getD s 0) (a1.getD s' 0) x = cb_lap n (a2.getD s 0) (a2.getD s' 0) (ψ x) from cb_lw_map hn h1 h hs hs' hx n 1 x hx] at this
    exact this
theorem cb_R_leaf (hn : n < 7) (hl : cb_lf n p cs a) (hc : cb_cn n p a) {x : Nat} (hx : x < n) : cb_lf n p cs (cb_R n p a x) := by
  obtain ⟨l1, l2, l3⟩ := hl
  have hok := (cb_R_all hn l2 hc hx).1
  obtain ⟨o1, o2, -⟩ := cb_o_all hn l2 hc hx
  refine ⟨cb_R_len, hok, fun s hs => ?_⟩
  rw [cb_okb_map hn hok (cb_R_hm hn l2 hc hx) (fun y hy => ⟨_, (o2 y hy).1, (o2 y hy).2⟩) hs (Nat.mod_lt _ (by omega))]
  exact l3 s hs
/-! the order -/
theorem cb_lt2_congr {u u' w w' : Nat → Nat → Nat} (h1 : cb_eq2 p n u u') (h2 : cb_eq2 p n w w') (h : cb_lt2 p n u w) : cb_lt2 p n u' w' := by
  obtain ⟨s, k, hs, hk, h3, h4⟩ := h
  exact ⟨s, k, hs, hk, by rw [← h1 s k hs hk, ← h2 s k hs hk]; exact h3, fun s' k' a1 a2 a3 => by rw [← h1 s' k' a1 a2, ← h2 s' k' a1 a2]; exact h4 s' k' a1 a2 a3⟩
theorem cb_lt2_irr {u : Nat → Nat → Nat} : ¬ cb_lt2 p n u u := by
  rintro ⟨s, k, -, -, h, -⟩
  exact Nat.lt_irrefl _ h
theorem cb_lt2_trans {u v w : Nat → Nat → Nat} (h : cb_lt2 p n u v) (h' : cb_lt2 p n v w) : cb_lt2 p n u w := by
  obtain ⟨s, k, hs, hk, h1, h2⟩ := h
  obtain ⟨s', k', hs', hk', h3, h4⟩ := h'
  by_cases q : s < s' ∨ s = s' ∧ k < k'
  · exact ⟨s, k, hs, hk, by rw [← h4 s k hs hk q]; exact h1, fun a b x1 x2 x3 => by rw [h2 a b x1 x2 x3]; exact h4 a b x1 x2 (by omega)⟩
  · by_cases e : s = s' ∧ k = k'
    · obtain ⟨e1, e2⟩ := e
      subst e1 e2
      exact ⟨s, k, hs, hk, Nat.lt_trans h1 h3, fun a b x1 x2 x3 => by rw [h2 a b x1 x2 x3]; exact h4 a b x1 x2 x3⟩
    · exact ⟨s', k', hs', hk', by rw [h2 s' k' hs' hk' (by omega)]; exact h3, fun a b x1 x2 x3 => by rw [h2 a b x1 x2 (by omega)]; exact h4 a b x1 x2 x3⟩
theorem cb_lt2_tri (u w : Nat → Nat → Nat) : cb_lt2 p n u w ∨ cb_eq2 p n u w ∨ cb_lt2 p n w u := by
  by_cases e : cb_eq2 p n u w
  · exact Or.inr (Or.inl e)
  · have h1 : ∃ s, s < p ∧ ∃ k, k < n ∧ u s k ≠ w s k := Classical.byContradiction (fun q => e (fun s k hs hk => Classical.byContradiction (fun z => q ⟨s, hs, k, hk, z⟩)))
    obtain ⟨s, ⟨hs, h2⟩, h3⟩ := pk_least _ h1
    obtain ⟨k, ⟨hk, h4⟩, h5⟩ := pk_least _ h2
    have bef : ∀ s' k', s' < p → k' < n → (s' < s ∨ s' = s ∧ k' < k) → u s' k' = w s' k' := fun s' k' a1 a2 a3 => by
      rcases a3 with a3 | ⟨a3, a4⟩
      · exact Classical.byContradiction (fun z => h3 s' a3 ⟨a1, k', a2, z⟩)
      · subst a3
        exact Classical.byContradiction (fun z => h5 k' a4 ⟨a2, z⟩)
    rcases Nat.lt_or_gt_of_ne h4 with q | q
    · exact Or.inl ⟨s, k, hs, hk, q, bef⟩
    · exact Or.inr (Or.inr ⟨s, k, hs, hk, q, fun s' k' a1 a2 a3 => (bef s' k' a1 a2 a3).symm⟩)
theorem cb_eq2_symm {u w : Nat → Nat → Nat} (h : cb_eq2 p n u w) : cb_eq2 p n w u := fun s k a b => (h s k a b).symm
/-- counted by likenesses, or by the least ones -/
theorem cb_unlike (hn1 : 1 ≤ n) (hn : n < 7) (hp : 3 ≤ p) : ((cb_lv n p cs p []).map (fun a => if cb_k1 n p a then (if cb_R n p a 0 = a then or_ct (cb_R n p) n a a else 0) else 0)).sum = n * (cb_lv n p cs p []).countP (cb_k3 n p) := by
  have hC : ∀ a, a ∈ (cb_lv n p cs p []).filter (cb_k1 n p) ↔ cb_lf n p cs a ∧ cb_cn n p a := fun a => by
    rw [List.mem_filter, cb_lv_leaf hp]
    exact and_congr_right (fun _ => cb_B_iff)
  have key := or_count (R := cb_R n p) (n := n) (C := (cb_lv n p cs p []).filter (cb_k1 n p)) (lt := fun a c => cb_lt2 p n (cb_b n a) (cb_b n c)) (lit := fun a => cb_B (cb_li n p a)) (by omega) (List.Pairwise.filter _ (cb_lv_nodup p []))
    (fun a x ha hx => by
      obtain ⟨h1, h2⟩ := (hC a).mp ha
      exact (hC _).mpr ⟨cb_R_leaf hn h1 h2 hx, cb_R_cn hn h1.2.1 h2 hx⟩)
    (fun a x ha hx => by
      obtain ⟨h1, h2⟩ := (hC a).mp ha
      have hm := cb_R_hm hn h1.2.1 h2 hx
      exact ⟨fun k => (cb_od n p a x).getD k 0, hm.1, fun j k hj hk e => hm.2.1 j k hj hk e, (cb_o_all hn h1.2.1 h2 hx).2.2, fun k hk => cb_RR hn h1.2.1 h2 hx hk⟩)
    (fun _ _ _ _ _ _ h h' => cb_lt2_trans h h') (fun _ _ => cb_lt2_irr)
    (fun a c ha hc => by
      obtain ⟨h1, -⟩ := (hC a).mp ha
      obtain ⟨h3, -⟩ := (hC c).mp hc
      rcases cb_lt2_tri (p := p) (n := n) (cb_b n a) (cb_b n c) with q | q | q
      · exact Or.inl q
      · exact Or.inr (Or.inl (cb_b_inj hn h1.1 h3.1 h1.2.1 h3.2.1 q))
      · exact Or.inr (Or.inr q))
    (fun a ha => by
      obtain ⟨h1, h2⟩ := (hC a).mp ha
      rw [cb_B_iff]
      refine and_congr ?_ ?_
      · refine forall_congr' (fun x => forall_congr' (fun hx => not_congr ?_))
        have e := (cb_R_all hn h1.2.1 h2 hx).2
        exact ⟨fun q => cb_lt2_congr (cb_eq2_symm e) (fun _ _ _ _ => rfl) q, fun q => cb_lt2_congr e (fun _ _ _ _ => rfl) q⟩
      · refine exists_congr (fun x => and_congr_right (fun hx => ?_))
        have e := (cb_R_all hn h1.2.1 h2 hx).2
        constructor
        · exact fun q => cb_b_inj hn cb_R_len h1.1 (cb_R_all hn h1.2.1 h2 hx).1 h1.2.1 (fun s k hs hk => (e s k hs hk).trans (q s k hs hk))
        · intro q s k hs hk
          rw [← e s k hs hk, q])
  have split : ∀ (l : List (List Nat)) (f : List Nat → Nat), (l.map (fun a => if cb_k1 n p a then f a else 0)).sum = ((l.filter (cb_k1 n p)).map f).sum := by
    intro l f
    induction l with
    | nil => rfl
    | cons a l ih =>
      rw [List.map_cons, List.sum_cons, ih]
      by_cases q : cb_k1 n p a = true
      · rw [if_pos q, List.filter_cons_of_pos q, List.map_cons, List.sum_cons]
      · rw [if_neg q, List.filter_cons_of_neg q, Nat.zero_add]
  rw [split, key, List.countP_filter]
  congr 1
  refine List.countP_congr (fun a _ => ?_)
  rw [Bool.and_eq_true]
  constructor
  · rintro ⟨q1, q2⟩
    exact cb_B_t ⟨cb_B_iff.mp q2, cb_B_iff.mp q1⟩
  · intro q
    have := cb_B_iff.mp q
    exact ⟨cb_B_t this.2, cb_B_t this.1⟩
end CL2
