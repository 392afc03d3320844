/-! ===== four sides or more: tiles and their words ===== -/
/-- on the way up round the corner of a and b, k steps over its foot, the last of them over a -/
def HT (ac : Nat → Nat → Nat) (x a b k : Nat) : Prop := ∃ z l0 l1, (l0 = a ∧ l1 = b ∨ l0 = b ∧ l1 = a) ∧ (¬ ac z a < z ∧ ¬ ac z b < z) ∧ 1 ≤ k ∧ up ac l0 l1 z k x ∧ al l0 l1 (k - 1) = a
section HT1
variable {ac : Nat → Nat → Nat} {x x' a b k m : Nat}
theorem up_same {z z' l0 l1 l0' l1' i j : Nat} (hab : a ≠ b) (hs : l0 = a ∧ l1 = b ∨ l0 = b ∧ l1 = a) (hs' : l0' = a ∧ l1' = b ∨ l0' = b ∧ l1' = a) (fz : ¬ ac z a < z ∧ ¬ ac z b < z) (fz' : ¬ ac z' a < z' ∧ ¬ ac z' b < z') (h : up ac l0 l1 z (i + 1) x) (h' : up ac l0' l1' z' (j + 1) x) (hl : al l0 l1 i = al l0' l1' j) : i = j := by
  have fe : ¬ ac z l0 < z ∧ ¬ ac z l1 < z := by
    rcases hs with ⟨e1, e2⟩ | ⟨e1, e2⟩ <;> rw [e1, e2]
    · exact fz
    · exact ⟨fz.2, fz.1⟩
  have fe' : ¬ ac z' l0' < z' ∧ ¬ ac z' l1' < z' := by
    rcases hs' with ⟨e1, e2⟩ | ⟨e1, e2⟩ <;> rw [e1, e2]
    · exact fz'
    · exact ⟨fz'.2, fz'.1⟩
  by_cases e : i ≤ j
  · have q := up_foot (i := j - i) (a' := l0') (b' := l1') (z' := z') fe.1 fe.2 (by omega) (by omega) h (by rw [show j - i + (i + 1) = j + 1 by omega]; exact h') (by rw [show j - i + i = j by omega]; exact hl)
    omega
  · have q := up_foot (i := i - j) (a' := l0) (b' := l1) (z' := z) fe'.1 fe'.2 (by omega) (by omega) h' (by rw [show i - j + (j + 1) = i + 1 by omega]; exact h) (by rw [show i - j + j = i by omega]; exact hl.symm)
    omega
theorem ht_dw (h : HT ac x a b k) : ac x a < x := by
  obtain ⟨z, l0, l1, _, _, h1, h2, h3⟩ := h
  rw [show k = (k - 1) + 1 by omega] at h2
  have := up_dw h2
  rw [h3] at this; exact this
theorem ht_up (hab : a ≠ b) (h : HT ac x' b a k) (hx : x' < x) (hx2 : x < 2000) (e1 : ac x a = x') (e2 : ac x' a = x) : HT ac x a b (k + 1) := by
  obtain ⟨z, l0, l1, hs, hf, h1, h2, h3⟩ := h
  have el : al l0 l1 k = a := by
    rw [show k = (k - 1) + 1 by omega, al_s]
    rcases al_or l0 l1 (k - 1) with ⟨g1, g2⟩ | ⟨g1, g2⟩ <;> omega
  exact ⟨z, l0, l1, by omega, ⟨hf.2, hf.1⟩, by omega, ⟨x', h2, hx, hx2, by rw [el]; exact e1, by rw [el]; exact e2⟩, by rw [Nat.add_sub_cancel]; exact el⟩
theorem ht_1 (fa : ¬ ac x' a < x') (fb : ¬ ac x' b < x') (hx : x' < x) (hx2 : x < 2000) (e1 : ac x a = x') (e2 : ac x' a = x) : HT ac x a b 1 := ⟨x', a, b, Or.inl ⟨rfl, rfl⟩, ⟨fa, fb⟩, Nat.le_refl _, ⟨x', rfl, hx, hx2, e1, e2⟩, rfl⟩
theorem ht_top (hab : a ≠ b) (h : HT ac x a b k) (hr : res ac x a b m) : ac x b < x ↔ (m ≠ 0 ∧ k = m) := by
  have hd := ht_dw h
  obtain ⟨z, l0, l1, hs, hf, h1, h2, h3⟩ := h
  obtain ⟨i, ei⟩ : ∃ i, k = i + 1 := ⟨k - 1, by omega⟩
  subst ei
  rw [Nat.add_sub_cancel] at h3
  constructor
  · intro hb
    obtain ⟨m0, z', hf', u1, u2⟩ := res_both hab hr hd hb
    obtain ⟨j, ej⟩ : ∃ j, m = j + 1 := ⟨m - 1, by omega⟩
    rw [ej] at u1 u2
    refine ⟨by omega, ?_⟩
    rcases al_or a b j with ⟨g1, g2⟩ | ⟨g1, g2⟩
    · have := up_same hab hs (Or.inl ⟨rfl, rfl⟩) hf hf' h2 u1 (h3.trans g1.symm); omega
    · have := up_same hab hs (Or.inr ⟨rfl, rfl⟩) hf hf' h2 u2 (h3.trans g2.symm); omega
  · intro ⟨m0, km⟩
    obtain ⟨z', k', c1, c2, c3⟩ := hr
    rcases c3 with ⟨_, e⟩ | ⟨c4, c5, c6⟩ | ⟨_, _, c6, c7⟩
    · rw [e] at hd; exact absurd hd c1
    · obtain ⟨j, ej⟩ : ∃ j, k' = j + 1 := ⟨k' - 1, by omega⟩
      subst ej
      rcases c6 with ⟨c6, c7⟩ | ⟨c6, c7⟩ <;> rw [al_s] at c7
      · rcases al_or a b j with ⟨g1, g2⟩ | ⟨g1, g2⟩
        · have := up_same hab hs (Or.inl ⟨rfl, rfl⟩) hf ⟨c1, c2⟩ h2 c6 (h3.trans g1.symm); omega
        · rw [g2] at c7; exact absurd hd c7
      · rcases al_or b a j with ⟨g1, g2⟩ | ⟨g1, g2⟩
        · rw [g2] at c7; exact absurd hd c7
        · have := up_same hab hs (Or.inr ⟨rfl, rfl⟩) hf ⟨c1, c2⟩ h2 c6 (h3.trans g1.symm); omega
    · obtain ⟨j, ej⟩ : ∃ j, m = j + 1 := ⟨m - 1, by omega⟩
      rw [ej] at c6 c7
      have w1 := up_dw c6
      have w2 := up_dw c7
      rcases al_or a b j with ⟨g1, g2⟩ | ⟨g1, g2⟩
      · rw [g2] at w2; exact w2
      · rw [g1] at w1; exact w1
end HT1
/-! words: the last side first; what is known behind a word: the last side, how high round its corner with the side before and with the side behind, and whether the side before goes down too -/
abbrev wd_q : Type := Nat × Nat × Nat × Bool
def wd_r (p : Nat) (q : wd_q) (y : Nat) : Nat := (if (y + 1) % p = q.1 then q.2.1 else if q.2.2.2 = true ∧ (y + 2) % p = q.1 then 1 else 0) + 1
def wd_l (p : Nat) (q : wd_q) (y : Nat) : Nat := (if y = (q.1 + 1) % p then q.2.2.1 else 0) + 1
def wd_o (p : Nat) (cs : Nat → Nat) (q : wd_q) (y : Nat) : Bool := decide (y < p) && (!(decide (y = q.1)) && (!(q.2.2.2 && decide ((y + 1) % p = q.1)) && !(decide (cs y ≠ 0) && decide (wd_r p q y = cs y))))
def wd_s (p : Nat) (cs : Nat → Nat) (q : wd_q) (y : Nat) : wd_q := (y, wd_l p q y, wd_r p q y, decide (cs ((y + p - 1) % p) ≠ 0) && decide (wd_l p q y = cs ((y + p - 1) % p)))
def wd_t (p : Nat) (cs : Nat → Nat) : List Nat → Option wd_q
  | [] => some (p, 0, 0, false)
  | y :: w => match wd_t p cs w with
    | none => none
    | some q => if wd_o p cs q y = true then some (wd_s p cs q y) else none
/-- the vector of a word, modulo the first prime -/
def wd_v (p : Nat) (cs : Nat → Nat) : List Nat → Nat → Nat
  | [] => fun _ => 1
  | y :: w => tn_r an_P1 (fun j => an_c1 (an_m p cs y j)) (wd_v p cs w) y
/-- a tile's walk -/
def wd_x (ac : Nat → Nat → Nat) : List Nat → Nat
  | [] => 0
  | y :: w => ac (wd_x ac w) y
/-- what a tile's state says of it -/
def wd_S (p : Nat) (ac : Nat → Nat → Nat) (x : Nat) (q : wd_q) : Prop := (x = 0 ∧ q = (p, 0, 0, false)) ∨ (q.1 < p ∧ ac x q.1 < x ∧ ¬ ac x ((q.1 + 1) % p) < x ∧ (q.2.2.2 = true ↔ ac x ((q.1 + p - 1) % p) < x) ∧ HT ac x q.1 ((q.1 + 1) % p) q.2.2.1 ∧ HT ac x q.1 ((q.1 + p - 1) % p) q.2.1 ∧ (q.2.2.2 = true → HT ac x ((q.1 + p - 1) % p) (((q.1 + p - 1) % p + p - 1) % p) 1))
section WD1
variable {p n t s : Nat} {ac : Nat → Nat → Nat} {rg : Nat → Nat} {cs : Nat → Nat} {V1 V2 : Nat → Nat → Nat}
theorem wd_dn (h : pi_t p cs n ac rg V1 V2 t s) {x : Nat} {q : wd_q} (hx : x < n) (hS : wd_S p ac x q) {y : Nat} (hy : y < p) : ac x y < x ↔ (y = q.1 ∨ q.2.2.2 = true ∧ (y + 1) % p = q.1) := by
  obtain ⟨_, _, hadj, _⟩ := h
  rcases hS with ⟨e1, e2⟩ | ⟨s1, s2, s3, s4, _⟩
  · rw [e1, e2]
    constructor
    · intro z; omega
    · intro z
      rcases z with z | ⟨z, _⟩
      · omega
      · exact absurd z (show ¬ (false = true) by decide)
  · constructor
    · intro hd
      by_cases e : y = q.1
      · exact Or.inl e
      · right
        rcases hadj x q.1 y hx s1 hy s2 hd with c | c | c
        · exact absurd c.symm e
        · rw [c] at hd; exact absurd hd s3
        · have e2 : y = (q.1 + p - 1) % p := by
            rcases md_1 hy with ⟨x1, x2⟩ | ⟨x1, x2⟩ <;> rcases md_2 s1 with ⟨x3, x4⟩ | ⟨x3, x4⟩ <;> omega
          refine ⟨s4.mpr (by rw [← e2]; exact hd), c.symm⟩
    · intro z
      rcases z with z | ⟨z1, z2⟩
      · rw [z]; exact s2
      · have e2 : y = (q.1 + p - 1) % p := by
          rcases md_1 hy with ⟨x1, x2⟩ | ⟨x1, x2⟩ <;> rcases md_2 s1 with ⟨x3, x4⟩ | ⟨x3, x4⟩ <;> omega
        rw [e2]; exact s4.mp z1
/-- one step up: how high round both corners -/
theorem wd_up (hp4 : 4 ≤ p) (h : pi_t p cs n ac rg V1 V2 t s) {x x' y : Nat} {q : wd_q} (hx : x < n) (hy : y < p) (hl : x' < x) (e1 : ac x y = x') (e2 : ac x' y = x) (hS : wd_S p ac x' q) : HT ac x y ((y + 1) % p) (wd_r p q y) ∧ HT ac x y ((y + p - 1) % p) (wd_l p q y) := by
  have n2 : n ≤ 2000 := h.1.2.1
  have hx' : x' < n := by omega
  obtain ⟨o1, o2, o3, o4, o5⟩ := nb_sides (show 3 ≤ p by omega) hy
  have dn := fun {z : Nat} (hz : z < p) => wd_dn h hx' hS (y := z) hz
  have fy : ¬ ac x' y < x' := by rw [e2]; omega
  have f1 : ∀ {z : Nat}, z < p → ¬ ac x' z < x' → HT ac x y z 1 := fun _ fz => ht_1 fy fz hl (by omega) e1 e2
  have nd := fun z => fy ((dn hy).mpr z)
  constructor
  · unfold wd_r
    by_cases c1 : (y + 1) % p = q.1
    · rw [if_pos c1]
      rcases hS with ⟨_, g2⟩ | ⟨s1, s2, s3, s4, s5, s6, s7⟩
      · rw [g2] at c1
        have : (y + 1) % p < p := o4
        rw [c1] at this
        exact absurd this (Nat.lt_irrefl p)
      · have em : (q.1 + p - 1) % p = y := by
          rcases md_1 hy with ⟨x1, x2⟩ | ⟨x1, x2⟩ <;> rcases md_2 s1 with ⟨x3, x4⟩ | ⟨x3, x4⟩ <;> omega
        rw [em, ← c1] at s6
        exact ht_up (fun z => o1 z.symm) s6 hl (by omega) e1 e2
    · rw [if_neg c1]
      by_cases c2 : q.2.2.2 = true ∧ (y + 2) % p = q.1
      · rw [if_pos c2]
        rcases hS with ⟨_, g2⟩ | ⟨s1, s2, s3, s4, s5, s6, s7⟩
        · rw [g2] at c2; exact absurd c2.1 (show ¬ (false = true) by decide)
        · have w := s7 c2.1
          have k1 : (q.1 + p - 1) % p = (y + 1) % p := by
            have k2 : (y + 2) % p = ((y + 1) % p + 1) % p := by rw [Nat.mod_add_mod]
            rw [← c2.2, k2]
            rcases md_1 hy with ⟨x1, x2⟩ | ⟨x1, x2⟩ <;> rcases md_1 o4 with ⟨x3, x4⟩ | ⟨x3, x4⟩ <;> rcases md_2 (show ((y + 1) % p + 1) % p < p from Nat.mod_lt _ (by omega)) with ⟨x5, x6⟩ | ⟨x5, x6⟩ <;> omega
          rw [k1] at w
          have k3 : ((y + 1) % p + p - 1) % p = y := by
            rcases md_1 hy with ⟨x1, x2⟩ | ⟨x1, x2⟩ <;> rcases md_2 o4 with ⟨x3, x4⟩ | ⟨x3, x4⟩ <;> omega
          rw [k3] at w
          exact ht_up (fun z => o1 z.symm) w hl (by omega) e1 e2
      · rw [if_neg c2]
        refine f1 o4 (fun z => ?_)
        rcases (dn o4).mp z with z | ⟨z1, z2⟩
        · exact c1 z
        · exact c2 ⟨z1, by rw [← z2, Nat.mod_add_mod]⟩
  · unfold wd_l
    by_cases c1 : y = (q.1 + 1) % p
    · rw [if_pos c1]
      rcases hS with ⟨g1, g2⟩ | ⟨s1, s2, s3, s4, s5, s6, s7⟩
      · rw [g2]
        exact f1 o5 (by rw [g1]; omega)
      · have em : (y + p - 1) % p = q.1 := by
          rcases md_1 s1 with ⟨x1, x2⟩ | ⟨x1, x2⟩ <;> rcases md_2 hy with ⟨x3, x4⟩ | ⟨x3, x4⟩ <;> omega
        rw [em]
        rw [← c1] at s5
        exact ht_up (by rw [← em]; exact fun z => o2 z.symm) s5 hl (by omega) e1 e2
    · rw [if_neg c1]
      refine f1 o5 (fun z => ?_)
      rcases (dn o5).mp z with z | ⟨z1, z2⟩
      · apply c1
        rw [← z]; exact (md_3 hy).symm
      · rw [md_3 hy] at z2
        exact nd (Or.inl z2)
/-- and what is known of the tile then, unless the side behind goes down too -/
theorem wd_step (hp4 : 4 ≤ p) (hcs : ∀ j, j < p → cs j < 10 ∧ cs j ≠ 1) (h : pi_t p cs n ac rg V1 V2 t s) {x x' y : Nat} {q : wd_q} (hx : x < n) (hy : y < p) (hl : x' < x) (e1 : ac x y = x') (e2 : ac x' y = x) (hS : wd_S p ac x' q) : (ac x ((y + 1) % p) < x ↔ (cs y ≠ 0 ∧ wd_r p q y = cs y)) ∧ (¬ ac x ((y + 1) % p) < x → wd_o p cs q y = true ∧ wd_S p ac x (wd_s p cs q y)) := by
  have h0 := h
  obtain ⟨o1, o2, o3, o4, o5⟩ := nb_sides (show 3 ≤ p by omega) hy
  obtain ⟨g1, g2⟩ := wd_up hp4 h hx hy hl e1 e2 hS
  obtain ⟨_, _, hadj, hres, _⟩ := h
  have t1 := ht_top (fun z => o1 z.symm) g1 (hres x y hx hy)
  have r2 : res ac x y ((y + p - 1) % p) (cs ((y + p - 1) % p)) := by
    have := hres x ((y + p - 1) % p) hx o5
    rw [md_3 hy] at this
    exact res_symm this
  have t2 := ht_top (fun z => o2 z.symm) g2 r2
  refine ⟨t1, fun hn => ?_⟩
  have fy : ¬ ac x' y < x' := by rw [e2]; omega
  have nd := fun z => fy ((wd_dn h0 (show x' < n by omega) hS hy).mpr z)
  have hb : (decide (cs ((y + p - 1) % p) ≠ 0) && decide (wd_l p q y = cs ((y + p - 1) % p))) = true ↔ ac x ((y + p - 1) % p) < x := by
    rw [Bool.and_eq_true, decide_eq_true_iff, decide_eq_true_iff]
    exact t2.symm
  constructor
  · unfold wd_o
    rw [Bool.and_eq_true, Bool.and_eq_true, Bool.and_eq_true, decide_eq_true_iff]
    refine ⟨hy, ?_, ?_, ?_⟩
    · rw [Bool.not_eq_true', decide_eq_false_iff_not]
      exact fun z => nd (Or.inl z)
    · rw [Bool.not_eq_true', Bool.and_eq_false_iff, decide_eq_false_iff_not]
      by_cases c : q.2.2.2 = true
      · exact Or.inr (fun z => nd (Or.inr ⟨c, z⟩))
      · exact Or.inl (Bool.eq_false_iff.mpr c)
    · rw [Bool.not_eq_true', Bool.and_eq_false_iff, decide_eq_false_iff_not, decide_eq_false_iff_not]
      by_cases c : cs y ≠ 0
      · exact Or.inr (fun z => hn (t1.mpr ⟨c, z⟩))
      · exact Or.inl c
  · refine Or.inr ⟨hy, by show ac x y < x; rw [e1]; exact hl, hn, hb, g1, g2, fun hd => ?_⟩
    have hdw := hb.mp hd
    show HT ac x ((y + p - 1) % p) (((y + p - 1) % p + p - 1) % p) 1
    -- the tile below over the side before: it goes down over y, so not over the one before that
    obtain ⟨m0, z, _, u1, u2⟩ := res_both (fun z => o2 z.symm) r2 (by rw [e1]; exact hl) hdw
    obtain ⟨⟨_, n2, _, _, hg⟩, _⟩ := h0
    obtain ⟨f1, f2, f3⟩ := hg.1 x ((y + p - 1) % p) hx o5 (by omega)
    have c1 := (hcs _ o5).2
    have dfy : ac (ac x ((y + p - 1) % p)) y < ac x ((y + p - 1) % p) := by
      obtain ⟨k, ek⟩ : ∃ k, cs ((y + p - 1) % p) = k + 2 := ⟨cs ((y + p - 1) % p) - 2, by omega⟩
      rw [ek] at u1 u2
      have go : ∀ a' b', up ac a' b' z (k + 2) x → al a' b' (k + 1) = (y + p - 1) % p → al b' a' (k + 1) = y → ac (ac x ((y + p - 1) % p)) y < ac x ((y + p - 1) % p) := fun a' b' u e1 e2 => by
        obtain ⟨v, v1, v2, v3, v4, v5⟩ := u
        rw [e1] at v4
        rw [← v4] at v1
        have w := up_dw v1
        rw [al_s] at e2
        rw [e2] at w; exact w
      rcases al_or y ((y + p - 1) % p) (k + 1) with ⟨y1, y2⟩ | ⟨y1, y2⟩
      · exact go _ _ u2 y2 y1
      · exact go _ _ u1 y1 y2
    refine ht_1 (by rw [f2]; omega) (fun zz => ?_) hdw (by omega) rfl f2
    have o6 : ((y + p - 1) % p + p - 1) % p < p := Nat.mod_lt _ (by omega)
    have q := hadj _ _ _ f1 hy o6 dfy zz
    rcases md_1 hy with ⟨x1, x2⟩ | ⟨x1, x2⟩ <;> rcases md_2 hy with ⟨x3, x4⟩ | ⟨x3, x4⟩ <;> rcases md_2 o5 with ⟨x5, x6⟩ | ⟨x5, x6⟩ <;> rcases md_1 o6 with ⟨x7, x8⟩ | ⟨x7, x8⟩ <;> omega
end WD1
