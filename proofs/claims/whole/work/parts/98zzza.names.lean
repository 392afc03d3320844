/-! ===== four sides or more: no two words with one vector, no two tiles ===== -/
section WN1
variable {p n t s : Nat} {ac : Nat → Nat → Nat} {rg : Nat → Nat} {cs : Nat → Nat} {V1 V2 : Nat → Nat → Nat}
theorem wd_cons {w : List Nat} {q : wd_q} {y : Nat} (h : wd_t p cs w = some q) (ho : wd_o p cs q y = true) : wd_t p cs (y :: w) = some (wd_s p cs q y) := by
  show (match wd_t p cs w with | none => none | some q => if wd_o p cs q y = true then some (wd_s p cs q y) else none) = _
  rw [h]
  show (if wd_o p cs q y = true then some (wd_s p cs q y) else none) = _
  rw [if_pos ho]
theorem wd_uncons {w : List Nat} {q : wd_q} {y : Nat} (h : wd_t p cs (y :: w) = some q) : ∃ q', wd_t p cs w = some q' ∧ wd_o p cs q' y = true ∧ q = wd_s p cs q' y := by
  have h' : (match wd_t p cs w with | none => none | some q => if wd_o p cs q y = true then some (wd_s p cs q y) else none) = some q := h
  cases hw : wd_t p cs w with
  | none => rw [hw] at h'; exact absurd h' (by simp)
  | some q' =>
    rw [hw] at h'
    have h2 : (if wd_o p cs q' y = true then some (wd_s p cs q' y) else none) = some q := h'
    by_cases e : wd_o p cs q' y = true
    · rw [if_pos e] at h2
      exact ⟨q', rfl, e, (Option.some.inj h2).symm⟩
    · rw [if_neg e] at h2; exact absurd h2 (by simp)
theorem wd_o_iff {q : wd_q} {y : Nat} : wd_o p cs q y = true ↔ y < p ∧ y ≠ q.1 ∧ ¬ (q.2.2.2 = true ∧ (y + 1) % p = q.1) ∧ ¬ (cs y ≠ 0 ∧ wd_r p q y = cs y) := by
  unfold wd_o
  rw [Bool.and_eq_true, Bool.and_eq_true, Bool.and_eq_true, decide_eq_true_iff, Bool.not_eq_true', decide_eq_false_iff_not, Bool.not_eq_true', Bool.not_eq_true', Bool.and_eq_false_iff, Bool.and_eq_false_iff, decide_eq_false_iff_not, decide_eq_false_iff_not, decide_eq_false_iff_not]
  constructor
  · intro ⟨h1, h2, h3, h4⟩
    refine ⟨h1, h2, fun z => ?_, fun z => ?_⟩
    · rcases h3 with h3 | h3
      · rw [z.1] at h3; exact absurd h3 (by decide)
      · exact h3 z.2
    · rcases h4 with h4 | h4
      · exact h4 z.1
      · exact h4 z.2
  · intro ⟨h1, h2, h3, h4⟩
    refine ⟨h1, h2, ?_, ?_⟩
    · by_cases c : q.2.2.2 = true
      · exact Or.inr (fun z => h3 ⟨c, z⟩)
      · exact Or.inl (Bool.eq_false_iff.mpr c)
    · by_cases c : cs y ≠ 0
      · exact Or.inr (fun z => h4 ⟨c, z⟩)
      · exact Or.inl c
theorem tn_r_congr {P : Nat} {c V V' : Nat → Nat} {y : Nat} (hy : y < p) (h : ∀ j, j < p → V j = V' j) : ∀ j, j < p → tn_r P c V y j = tn_r P c V' y j := fun j hj => by
  unfold tn_r
  rw [h j hj, h y hy]
/-- each tile has its word -/
theorem wd_ex (hp4 : 4 ≤ p) (hcs : ∀ j, j < p → cs j < 10 ∧ cs j ≠ 1) (h : pi_t p cs n ac rg V1 V2 t s) : ∀ x, x < n → ∃ w q, wd_t p cs w = some q ∧ wd_x ac w = x ∧ wd_S p ac x q ∧ w.length = rg x ∧ ∀ j, j < p → V1 x j = wd_v p cs w j := by
  have h0 := h
  obtain ⟨⟨ht, n2, _, rg0, hg⟩, ⟨hall, hal, hrg, hpar⟩, hadj, hres, hV, hlt, hV0⟩ := h
  intro x
  induction x using Nat.strongRecOn with
  | ind x ih =>
    intro hx
    by_cases x0 : x = 0
    · subst x0
      exact ⟨[], (p, 0, 0, false), rfl, rfl, Or.inl ⟨rfl, rfl⟩, rg0.symm, fun j _ => (hV0 j).1⟩
    · have key : ∃ d, d < p ∧ ac x d < x ∧ ¬ ac x ((d + 1) % p) < x := by
        obtain ⟨y, y1, y2⟩ := hpar x (by omega) hx
        by_cases c : ac x ((y + 1) % p) < x
        · have l1 : (y + 1) % p < p := Nat.mod_lt _ (by omega)
          refine ⟨(y + 1) % p, l1, c, fun z => ?_⟩
          have l2 : ((y + 1) % p + 1) % p < p := Nat.mod_lt _ (by omega)
          have q := hadj x y _ hx y1 l2 y2 z
          rcases md_1 y1 with ⟨x1, x2⟩ | ⟨x1, x2⟩ <;> rcases md_1 l1 with ⟨x3, x4⟩ | ⟨x3, x4⟩ <;> rcases md_1 l2 with ⟨x5, x6⟩ | ⟨x5, x6⟩ <;> omega
        · exact ⟨y, y1, y2, c⟩
      obtain ⟨d, d1, d2, d3⟩ := key
      obtain ⟨g1, g2, g3⟩ := hg.1 x d hx d1 (by omega)
      obtain ⟨w, q, k1, k2, k3, k4, k5⟩ := ih (ac x d) d2 g1
      obtain ⟨s1, s2⟩ := (wd_step hp4 hcs h0 hx d1 d2 rfl g2 k3).2 d3
      have up := pg_up hg g1 d1 (by rw [g2]; omega)
      rw [g2] at up
      have r1 := up.1.mp d2
      refine ⟨d :: w, _, wd_cons k1 s1, by show ac (wd_x ac w) d = x; rw [k2]; exact g2, s2, by rw [List.length_cons, k4, r1], fun j hj => ?_⟩
      have e := (hV (ac x d) d g1 d1 (by rw [g2]; exact d2) (by rw [g2]; omega) j hj).1
      rw [g2] at e
      rw [e]
      exact tn_r_congr d1 k5 j hj
/-- each word leads to a tile, as far as the rings are full -/
theorem wd_tile (hp4 : 4 ≤ p) (hcs : ∀ j, j < p → cs j < 10 ∧ cs j ≠ 1) (h : pi_t p cs n ac rg V1 V2 t s) : ∀ (w : List Nat) (q : wd_q), wd_t p cs w = some q → w.length ≤ rg t → wd_x ac w < n ∧ rg (wd_x ac w) = w.length ∧ wd_S p ac (wd_x ac w) q := by
  have h0 := h
  have hlow := pi_low h
  obtain ⟨⟨ht, n2, _, rg0, hg⟩, ⟨hall, hal, hrg, hpar⟩, hadj, hres, hV, hlt, hV0⟩ := h
  intro w
  induction w with
  | nil =>
    intro q hq _
    have : q = (p, 0, 0, false) := (Option.some.inj hq).symm
    exact ⟨by show 0 < n; omega, rg0, Or.inl ⟨rfl, this⟩⟩
  | cons y w ih =>
    intro q hq hl
    rw [List.length_cons] at hl
    obtain ⟨q', q1, q2, q3⟩ := wd_uncons hq
    obtain ⟨i1, i2, i3⟩ := ih q' q1 (by omega)
    obtain ⟨o1, o2, o3, o4⟩ := wd_o_iff.mp q2
    have ex := hlow _ y i1 (by omega) o1
    obtain ⟨g1, g2, g3⟩ := hg.1 _ y i1 o1 ex
    have nd : ¬ ac (wd_x ac w) y < wd_x ac w := fun z => by
      rcases (wd_dn h0 i1 i3 o1).mp z with z | z
      · exact o2 z
      · exact o3 z
    have q := pg_up hg i1 o1 ex
    have hup : wd_x ac w < ac (wd_x ac w) y := by
      rcases g3 with g | g
      · exact q.1.mpr g
      · exact absurd (q.2.mpr g) nd
    obtain ⟨s1, s2⟩ := wd_step hp4 hcs h0 g1 o1 hup g2 rfl i3
    have hn : ¬ ac (ac (wd_x ac w) y) ((y + 1) % p) < ac (wd_x ac w) y := fun z => o4 (s1.mp z)
    refine ⟨g1, ?_, ?_⟩
    · show rg (ac (wd_x ac w) y) = _
      rw [q.1.mp hup, i2, List.length_cons]
    · rw [q3]; exact (s2 hn).2
/-- and to one tile only one -/
theorem wd_inj (hp4 : 4 ≤ p) (hcs : ∀ j, j < p → cs j < 10 ∧ cs j ≠ 1) (h : pi_t p cs n ac rg V1 V2 t s) : ∀ (w w' : List Nat) (q q' : wd_q), wd_t p cs w = some q → wd_t p cs w' = some q' → w.length ≤ rg t → w'.length ≤ rg t → wd_x ac w = wd_x ac w' → w = w' := by
  intro w
  induction w with
  | nil =>
    intro w' q q' h1 h2 l1 l2 e
    obtain ⟨a1, a2, _⟩ := wd_tile hp4 hcs h [] q h1 l1
    obtain ⟨b1, b2, _⟩ := wd_tile hp4 hcs h w' q' h2 l2
    rw [← e, a2] at b2
    exact (List.eq_nil_of_length_eq_zero b2.symm).symm
  | cons y w ih =>
    intro w' q q' h1 h2 l1 l2 e
    obtain ⟨a1, a2, a3⟩ := wd_tile hp4 hcs h _ q h1 l1
    obtain ⟨b1, b2, b3⟩ := wd_tile hp4 hcs h w' q' h2 l2
    cases w' with
    | nil =>
      rw [← e, a2] at b2
      exact absurd b2 (by simp)
    | cons y' w' =>
      obtain ⟨k, k1, k2, k3⟩ := wd_uncons h1
      obtain ⟨k', k1', k2', k3'⟩ := wd_uncons h2
      rw [List.length_cons] at l1 l2
      obtain ⟨o1, o2, o3, o4⟩ := wd_o_iff.mp k2
      obtain ⟨o1', o2', o3', o4'⟩ := wd_o_iff.mp k2'
      have hg := h.1.2.2.2.2
      have n2 := h.1.2.1
      rw [← e] at b3 b1
      have nz : ∀ {q : wd_q} {yy : Nat}, yy < p → q.1 = yy → wd_S p ac (wd_x ac (y :: w)) q → ac (wd_x ac (y :: w)) yy < wd_x ac (y :: w) ∧ ¬ ac (wd_x ac (y :: w)) ((yy + 1) % p) < wd_x ac (y :: w) := fun {q} {yy} hyp hq hS => by
        rcases hS with ⟨_, z⟩ | ⟨_, s2, s3, _⟩
        · rw [z] at hq
          have hq' : p = yy := hq
          exact absurd hyp (by omega)
        · rw [hq] at s2 s3; exact ⟨s2, s3⟩
      have d1 := nz o1 (by rw [k3]; rfl) a3
      have d2 := nz o1' (by rw [k3']; rfl) b3
      have ey : y = y' := by
        have q1 : q.1 = y := by rw [k3]; rfl
        rcases (wd_dn h a1 a3 o1').mp d2.1 with z | ⟨_, z2⟩
        · rw [q1] at z; exact z.symm
        · rw [q1] at z2
          rw [z2] at d2
          exact absurd d1.1 d2.2
      subst ey
      obtain ⟨i1, i2, i3⟩ := wd_tile hp4 hcs h w k k1 (by omega)
      obtain ⟨j1, j2, j3⟩ := wd_tile hp4 hcs h w' k' k1' (by omega)
      have x1 : wd_x ac (y :: w) = ac (wd_x ac w) y := rfl
      have x2 : wd_x ac (y :: w') = ac (wd_x ac w') y := rfl
      have g1 := (hg.1 _ y i1 o1 (by rw [← x1]; omega)).2.1
      have g2 := (hg.1 _ y j1 o1 (by rw [← x2, ← e]; omega)).2.1
      rw [← x1] at g1
      rw [← x2, ← e] at g2
      rw [ih w' k k' k1 k1' (by omega) (by omega) (g1.symm.trans g2)]
/-- how high round the corner behind side y, before the step -/
theorem wd_rh (hp4 : 4 ≤ p) (h : pi_t p cs n ac rg V1 V2 t s) {x y : Nat} {q : wd_q} (hx : x < n) (hy : y < p) (nd : ¬ ac x y < x) (hS : wd_S p ac x q) : (wd_r p q y = 1 ∧ ¬ ac x ((y + 1) % p) < x) ∨ ∃ k, wd_r p q y = k + 1 ∧ HT ac x ((y + 1) % p) y k := by
  obtain ⟨o1, o2, o3, o4, o5⟩ := nb_sides (show 3 ≤ p by omega) hy
  have dn := fun {z : Nat} (hz : z < p) => wd_dn h hx hS (y := z) hz
  unfold wd_r
  by_cases c1 : (y + 1) % p = q.1
  · rw [if_pos c1]
    rcases hS with ⟨_, g2⟩ | ⟨s1, s2, s3, s4, s5, s6, s7⟩
    · rw [g2] at c1
      have : (y + 1) % p < p := o4
      rw [c1] at this
      exact absurd this (Nat.lt_irrefl p)
    · have em : (q.1 + p - 1) % p = y := by
        rcases md_1 hy with ⟨x1, x2⟩ | ⟨x1, x2⟩ <;> rcases md_2 s1 with ⟨x3, x4⟩ | ⟨x3, x4⟩ <;> omega
      rw [em, ← c1] at s6
      exact Or.inr ⟨_, rfl, s6⟩
  · rw [if_neg c1]
    by_cases c2 : q.2.2.2 = true ∧ (y + 2) % p = q.1
    · rw [if_pos c2]
      rcases hS with ⟨_, g2⟩ | ⟨s1, s2, s3, s4, s5, s6, s7⟩
      · rw [g2] at c2; exact absurd c2.1 (show ¬ (false = true) by decide)
      · have w := s7 c2.1
        have k1 : (q.1 + p - 1) % p = (y + 1) % p := by
          have k2 : (y + 2) % p = ((y + 1) % p + 1) % p := by rw [Nat.mod_add_mod]
          rw [← c2.2, k2]
          rcases md_1 hy with ⟨x1, x2⟩ | ⟨x1, x2⟩ <;> rcases md_1 o4 with ⟨x3, x4⟩ | ⟨x3, x4⟩ <;> rcases md_2 (show ((y + 1) % p + 1) % p < p from Nat.mod_lt _ (by omega)) with ⟨x5, x6⟩ | ⟨x5, x6⟩ <;> omega
        rw [k1] at w
        have k3 : ((y + 1) % p + p - 1) % p = y := by
          rcases md_1 hy with ⟨x1, x2⟩ | ⟨x1, x2⟩ <;> rcases md_2 o4 with ⟨x3, x4⟩ | ⟨x3, x4⟩ <;> omega
        rw [k3] at w
        exact Or.inr ⟨1, rfl, w⟩
    · rw [if_neg c2]
      refine Or.inl ⟨rfl, fun z => ?_⟩
      rcases (dn o4).mp z with z | ⟨z1, z2⟩
      · exact c1 z
      · exact c2 ⟨z1, by rw [← z2, Nat.mod_add_mod]⟩
/-- what is to be reckoned of a board: more than 2000 words of at most K sides, and no two of them with one vector -/
def wd_W (p : Nat) (cs : Nat → Nat) (K : Nat) : Prop := (∃ F : Nat → List Nat, (∀ i, i < 2001 → ∃ q, wd_t p cs (F i) = some q ∧ (F i).length ≤ K) ∧ ∀ i j, i < 2001 → j < 2001 → F i = F j → i = j) ∧ ∀ (w w' : List Nat) (q q' : wd_q), wd_t p cs w = some q → wd_t p cs w' = some q' → w.length ≤ K → w'.length ≤ K → (∀ j, j < p → wd_v p cs w j = wd_v p cs w' j) → w = w'
theorem wd_no (hp4 : 4 ≤ p) (hcs : ∀ j, j < p → cs j < 10 ∧ cs j ≠ 1) {K : Nat} (hW : wd_W p cs K) {s0 : Nat} (h : pi_t p cs n ac rg V1 V2 t s0) (hs : s < p) (ha : ¬ ac t s < 2000) {u : Nat} (hu : u < n) (he : rv_e p (V1 u) (V2 u) (rv_w1 p cs V1 t s) (rv_w2 p cs V2 t s)) : False := by
  have h0 := h
  have hlow := pi_low h
  obtain ⟨⟨ht, n2, _, rg0, hg⟩, ⟨hall, hal, hrg, hpar⟩, hadj, hres, hV, hlt, hV0⟩ := h
  obtain ⟨⟨F, f1, f2⟩, hD⟩ := hW
  have hK : rg t < K := by
    by_cases c : rg t < K
    · exact c
    · exfalso
      have := inj_le n 2001 (fun i => wd_x ac (F i)) (fun i hi => by
        obtain ⟨q, q1, q2⟩ := f1 i hi
        exact (wd_tile hp4 hcs h0 _ q q1 (by omega)).1) (fun i j hi hj e => by
        obtain ⟨q, q1, q2⟩ := f1 i hi
        obtain ⟨q', q1', q2'⟩ := f1 j hj
        exact f2 i j hi hj (wd_inj hp4 hcs h0 _ _ q q' q1 q1' (by omega) (by omega) e))
      omega
  obtain ⟨wu, qu, u1, u2, u3, u4, u5⟩ := wd_ex hp4 hcs h0 u hu
  obtain ⟨wt, qt, t1, t2, t3, t4, t5⟩ := wd_ex hp4 hcs h0 t ht
  obtain ⟨o1, o2, o3, o4, o5⟩ := nb_sides (show 3 ≤ p by omega) hs
  have nds : ¬ ac t s < t := by omega
  have lu := hrg u hu
  have ag : agr p n ac rg ac rg := ⟨fun _ _ _ _ _ => rfl, fun _ _ _ _ z zz => z zz.1, fun _ _ => rfl⟩
  rcases cr_pair (m := cs s) hg n2 ag hs o4 (fun e => o1 e.symm) (fun x hx => hres x s hx hs) (hcs s hs).2 ht ha hlow with ⟨_, a, b, z, k, q1, q2, q3, q4, q5⟩ | ⟨k1, k2, k3, k4, k5, k6, a, b, z, q1, q2, q3, q4, q5⟩
  · -- the word goes on over side s
    have er : ¬ (cs s ≠ 0 ∧ wd_r p qt s = cs s) := by
      intro ⟨m0, mr⟩
      have km : k + 1 < cs s := by omega
      have ne : s ≠ (s + 1) % p := fun e => o1 e.symm
      have fz : ¬ ac z s < z ∧ ¬ ac z ((s + 1) % p) < z := by
        rcases q1 with ⟨x1, x2⟩ | ⟨x1, x2⟩ <;> rw [x1, x2] at q2
        · exact q2
        · exact ⟨q2.2, q2.1⟩
      rcases wd_rh hp4 h0 ht hs nds t3 with ⟨r1, r2⟩ | ⟨k', r1, r2⟩
      · omega
      · cases k with
        | zero =>
          rw [show t = z from q5] at r2
          exact fz.2 (ht_dw r2)
        | succ i =>
          obtain ⟨z', l0, l1, hs', hf', h1', h2', h3'⟩ := r2
          obtain ⟨j, ej⟩ : ∃ j, k' = j + 1 := ⟨k' - 1, by omega⟩
          subst ej
          rw [Nat.add_sub_cancel] at h3'
          have el : al a b i = (s + 1) % p := by
            rw [al_s] at q4
            rcases al_or a b i with ⟨g1, g2⟩ | ⟨g1, g2⟩ <;> omega
          have := up_same (a := s) (b := (s + 1) % p) ne q1 (by omega) fz ⟨hf'.2, hf'.1⟩ q5 h2' (el.trans h3'.symm)
          omega
    have ho : wd_o p cs qt s = true := wd_o_iff.mpr ⟨hs, fun e => nds ((wd_dn h0 ht t3 hs).mpr (Or.inl e)), fun e => nds ((wd_dn h0 ht t3 hs).mpr (Or.inr e)), er⟩
    have ew := hD (s :: wt) wu _ qu (wd_cons t1 ho) u1 (by rw [List.length_cons, t4]; omega) (by rw [u4]; omega) (fun j hj => by
      rw [← u5 j hj, (he j hj).1]
      exact (tn_r_congr hs t5 j hj).symm)
    rw [← ew] at u2
    have : ac (wd_x ac wt) s = u := u2
    rw [t2] at this
    omega
  · -- it goes on from the other tile, over the side behind
    obtain ⟨wF, qF, w1, w2, w3, w4, w5⟩ := wd_ex hp4 hcs h0 _ k1
    generalize hF : jr ac rg (s + (s + 1) % p) (cs s) t ((s + 1) % p) = G at *
    have ndr : ¬ ac G ((s + 1) % p) < G := by omega
    have er : ¬ (cs ((s + 1) % p) ≠ 0 ∧ wd_r p qF ((s + 1) % p) = cs ((s + 1) % p)) := by
      intro ⟨m0, mr⟩
      have c1 := (hcs _ o4).2
      rcases wd_rh hp4 h0 k1 o4 ndr w3 with ⟨r1, r2⟩ | ⟨k', r1, r2⟩
      · omega
      · have dd := ht_dw r2
        have l2 : ((s + 1) % p + 1) % p < p := Nat.mod_lt _ (by omega)
        have q := hadj G s _ k1 hs l2 k5 dd
        rcases md_1 hs with ⟨x1, x2⟩ | ⟨x1, x2⟩ <;> rcases md_1 o4 with ⟨x3, x4⟩ | ⟨x3, x4⟩ <;> rcases md_1 l2 with ⟨x5, x6⟩ | ⟨x5, x6⟩ <;> omega
    have ho : wd_o p cs qF ((s + 1) % p) = true := wd_o_iff.mpr ⟨o4, fun e => ndr ((wd_dn h0 k1 w3 o4).mpr (Or.inl e)), fun e => ndr ((wd_dn h0 k1 w3 o4).mpr (Or.inr e)), er⟩
    obtain ⟨am1, am2⟩ := an_m_1 (cs := cs) (show 3 ≤ p by omega) hs
    have vt := pi_turn h0 ht k1 (r := (s + 1) % p) (show a < p by omega) (show b < p by omega) (by omega) k2 (hcs s hs).1 (by
      rcases q1 with ⟨x1, x2⟩ | ⟨x1, x2⟩ <;> rw [x1, x2]
      · exact ⟨am1, am2⟩
      · exact ⟨am2, am1⟩) q3 (by rcases al_or a b (cs s - 1) with ⟨g1, g2⟩ | ⟨g1, g2⟩ <;> omega) q4 q5
    have ew := hD ((s + 1) % p :: wF) wu _ qu (wd_cons w1 ho) u1 (by rw [List.length_cons, w4]; omega) (by rw [u4]; omega) (fun j hj => by
      rw [← u5 j hj, (he j hj).1, (vt j hj).1]
      exact (tn_r_congr o4 w5 j hj).symm)
    rw [← ew] at u2
    have : ac (wd_x ac wF) ((s + 1) % p) = u := u2
    rw [w2] at this
    omega
/-- so a board of four sides or more is known by its words -/
theorem wd_pg (hp4 : 4 ≤ p) (hcs : ∀ j, j < p → cs j < 10 ∧ cs j ≠ 1) (hW : ∃ K, wd_W p cs K) : ∃ Q, pg_ok p cs Q := by
  obtain ⟨K, hW⟩ := hW
  exact ⟨_, pi_ok hp4 hcs (fun n ac rg V1 V2 t s h hs ha u hu he => wd_no hp4 hcs hW h hs ha hu he)⟩
end WN1
