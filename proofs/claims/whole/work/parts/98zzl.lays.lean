/-! ===== laying a board: ring by ring, to the ring that has no room ===== -/
/-- a board laid: T tiles, rim M -/
def pf_t (p T M : Nat) (ac : Nat → Nat → Nat) (rg : Nat → Nat) (I : Nat → Nat → Int32) (J : Nat → Nat → Int64) (I2 : Nat → Nat → Int32) (J2 : Nat → Nat → Int64) : Prop :=
  (p ≤ 8 ∧ 0 < T ∧ T ≤ 2000 ∧ M < 64) ∧
  (I 6 8 = nI p ∧ I2 0 1 = nI p ∧ I 6 9 = nI T ∧ I2 0 21 = nI T ∧ I 6 10 = nI M ∧ I2 0 22 = nI M ∧ ∀ k, k ≤ M → I 13 k = I2 13 k) ∧
  (∀ x, x < T → I 10 x = nI (rg x) ∧ I2 8 x = nI (rg x) ∧ rg x ≤ M ∧ I2 9 x = nI (ln p ac x) ∧ J 12 x = J2 14 x ∧ (∀ y, y < p → I 9 (8 * x + y) = pl_e (ac x y) ∧ I2 7 (8 * x + y) = pl_e (ac x y)) ∧ (∀ y, p ≤ y → y < 8 → I 9 (8 * x + y) = -1 ∧ I2 7 (8 * x + y) = -1) ∧ (rg x < M → ∀ y, y < p → ac x y < T)) ∧
  pg_g p T ac rg ∧ rg 0 = 0 ∧ nm_t p T ac rg I I2
/-- what laying leaves as it was -/
def pf_fr (I : Nat → Nat → Int32) (J : Nat → Nat → Int64) (I2 : Nat → Nat → Int32) (J2 : Nat → Nat → Int64) (I' : Nat → Nat → Int32) (J' : Nat → Nat → Int64) (I2' : Nat → Nat → Int32) (J2' : Nat → Nat → Int64) : Prop := (∀ q k, ¬ (9 ≤ q ∧ q ≤ 11) → q ≠ 13 → ¬ (q = 6 ∧ (k = 9 ∨ k = 10)) → I' q k = I q k) ∧ (∀ q, q ≠ 12 → J' q = J q) ∧ (∀ q k, ¬ (7 ≤ q ∧ q ≤ 13) → q ≠ 21 → ¬ (q = 0 ∧ (k = 21 ∨ k = 22)) → I2' q k = I2 q k) ∧ ∀ q, ¬ (14 ≤ q ∧ q ≤ 18) → J2' q = J2 q
theorem pf_fr_trans {I : Nat → Nat → Int32} {J : Nat → Nat → Int64} {I2 : Nat → Nat → Int32} {J2 : Nat → Nat → Int64} {I' : Nat → Nat → Int32} {J' : Nat → Nat → Int64} {I2' : Nat → Nat → Int32} {J2' : Nat → Nat → Int64} {Ia : Nat → Nat → Int32} {Ja : Nat → Nat → Int64} {I2a : Nat → Nat → Int32} {J2a : Nat → Nat → Int64} (h : pf_fr I J I2 J2 I' J' I2' J2') (h' : pf_fr I' J' I2' J2' Ia Ja I2a J2a) : pf_fr I J I2 J2 Ia Ja I2a J2a :=
  ⟨fun q k a b c => (h'.1 q k a b c).trans (h.1 q k a b c), fun q a => (h'.2.1 q a).trans (h.2.1 q a), fun q k a b c => (h'.2.2.1 q k a b c).trans (h.2.2.1 q k a b c), fun q a => (h'.2.2.2 q a).trans (h.2.2.2 q a)⟩
theorem jf_pf {n : Nat} {I : Nat → Nat → Int32} {J : Nat → Nat → Int64} {I2 : Nat → Nat → Int32} {J2 : Nat → Nat → Int64} {I' : Nat → Nat → Int32} {J' : Nat → Nat → Int64} {I2' : Nat → Nat → Int32} {J2' : Nat → Nat → Int64} (h : jf n I J I2 J2 I' J' I2' J2') : pf_fr I J I2 J2 I' J' I2' J2' :=
  ⟨fun q k a b c => h.1.1 q k (by omega) (by omega) (by omega) (by omega), h.1.2.2, fun q k a b c => h.2.1 q k (by omega) b (by omega), h.2.2.2⟩
section JT3
variable {X : ij_R} {d e p : Nat} {b : Bool} {cs : Nat → Nat} {Q : pg_Q}
/-- ring sizes and the rim don't touch what is under way -/
theorem jt_fr {n t s : Nat} {ac : Nat → Nat → Nat} {rg : Nat → Nat} {V1 V2 : Nat → Nat → Nat} {I : Nat → Nat → Int32} {J : Nat → Nat → Int64} {I2 : Nat → Nat → Int32} {J2 : Nat → Nat → Int64} {I' I2' : Nat → Nat → Int32} (h : jt p cs Q n ac rg V1 V2 t s I J I2 J2) (h1 : ∀ q k, q ≠ 13 → ¬ (q = 6 ∧ k = 10) → I' q k = I q k) (h2 : ∀ q k, q ≠ 13 → ¬ (q = 0 ∧ k = 22) → I2' q k = I2 q k) : jt p cs Q n ac rg V1 V2 t s I' J I2' J2 := by
  obtain ⟨hq, ⟨⟨p8, n2, h8, h9, h5⟩, c2, c3, c4⟩, ⟨tb, ⟨_, _, r1, r2, r3, r4⟩, r5, r6⟩, m1, m2⟩ := h
  refine ⟨hq, ⟨⟨p8, n2, (h1 6 8 (by omega) (by omega)).trans h8, (h1 6 9 (by omega) (by omega)).trans h9, fun x hx => ?_⟩, fun j hj => ?_, fun x y hx hy hy8 => (h1 9 _ (by omega) (by omega)).trans (c3 x y hx hy hy8), c4⟩, ⟨tb, ⟨p8, n2, (h2 0 1 (by omega) (by omega)).trans r1, (h2 0 21 (by omega) (by omega)).trans r2, r3, rv_fr r4 (funext fun k => h2 21 k (by omega) (by omega)) rfl rfl⟩, fun x hx => ?_, r6⟩, (h2 10 0 (by omega) (by omega)).trans m1, fun x h0 hx => ?_⟩
  · rw [h1 10 x (by omega) (by omega)]
    refine ⟨(h5 x hx).1, fun y hy => ?_⟩
    rw [h1 9 _ (by omega) (by omega)]
    exact (h5 x hx).2 y hy
  · rw [h1 7 j (by omega) (by omega)]; exact c2 j hj
  · obtain ⟨a1, a2, a3, a4⟩ := r5 x hx
    exact ⟨(h2 8 x (by omega) (by omega)).trans a1, (h2 9 x (by omega) (by omega)).trans a2, fun y hy => (h2 7 _ (by omega) (by omega)).trans (a3 y hy), fun y hy hy8 => (h2 7 _ (by omega) (by omega)).trans (a4 y hy hy8)⟩
  · obtain ⟨s, u, a1, a2, a3, a4, a5, a6, a7, a8⟩ := m2 x h0 hx
    refine ⟨s, u, a1, a2, (h1 11 x (by omega) (by omega)).trans a3, (h2 12 x (by omega) (by omega)).trans a4, (h2 11 x (by omega) (by omega)).trans a5, a6, a7, ?_⟩
    rw [h2 10 x (by omega) (by omega), h2 10 u (by omega) (by omega), h2 22 s (by omega) (by omega)]
    exact a8
/-- the ring that has no room, taken back -/
theorem jt_cut (hp3 : 3 ≤ p) (hQ : pg_ok p cs Q) {fr n t s G : Nat} {ac : Nat → Nat → Nat} {rg : Nat → Nat} {V1 V2 : Nat → Nat → Nat} {I : Nat → Nat → Int32} {J : Nat → Nat → Int64} {I2 : Nat → Nat → Int32} {J2 : Nat → Nat → Int64} {I' I2' : Nat → Nat → Int32} (h : jt p cs Q 2000 ac rg V1 V2 t s I J I2 J2) (hfr : fr ≤ t) (ht : t < n) (hn : n ≤ 2000) (hG : G < 63) (g0 : rg 0 = 0) (g1 : ∀ x, x < fr → rg x < G) (g2 : ∀ x, fr ≤ x → x < n → rg x = G) (g3 : ∀ x, n ≤ x → x < 2000 → rg x = G + 1) (h10 : I 6 10 = nI G) (h22 : I2 0 22 = nI G) (h13 : ∀ k, k ≤ G → I 13 k = I2 13 k)
    (a1 : I' 6 9 = nI n) (a2 : ∀ y, 8 * fr ≤ y → y < 8 * n → I' 9 y = if I 9 y < nI n then I 9 y else -1) (a3 : ∀ q y, ¬ (q = 6 ∧ y = 9) → ¬ (q = 9 ∧ 8 * fr ≤ y ∧ y < 8 * n) → I' q y = I q y)
    (b1 : I2' 0 21 = nI n) (b2 : ∀ x y, fr ≤ x → x < n → y < p → I2' 7 (8 * x + y) = if I2 7 (8 * x + y) < nI n then I2 7 (8 * x + y) else -1) (b3 : ∀ x y, y < 8 → ¬ (fr ≤ x ∧ x < n ∧ y < p) → I2' 7 (8 * x + y) = I2 7 (8 * x + y)) (b4 : ∀ q k, q ≠ 7 → ¬ (q = 0 ∧ k = 21) → I2' q k = I2 q k) : pf_t p n G (fun x y => if ac x y < n then ac x y else 2000) rg I' J I2' J2 := by
  obtain ⟨hq, ⟨⟨p8, _, h8, h9, h5⟩, c2, c3, c4⟩, ⟨tb, ⟨_, _, r1, r2, r3, r4⟩, r5, r6⟩, m1, m2⟩ := h
  obtain ⟨⟨_, hg, _, hall⟩, _⟩ := hQ.2 2000 ac rg V1 V2 t s hq
  have hlow : ∀ x, x < 2000 → rg x < G → x < fr := fun x hx hl => by
    by_cases c1 : x < fr
    · exact c1
    · by_cases c2 : x < n
      · have := g2 x (by omega) c2; omega
      · have := g3 x (by omega) hx; omega
  have hle : ∀ x, x < n → rg x ≤ G := fun x hx => by
    by_cases c1 : x < fr
    · have := g1 x c1; omega
    · have := g2 x (by omega) hx; omega
  have hin : ∀ x, x < 2000 → rg x ≤ G → x < n := fun x hx hl => by
    by_cases c2 : x < n
    · exact c2
    · have := g3 x (by omega) hx; omega
  have f2 : ∀ x y, x < fr → y < p → ac x y < 2000 → ac x y < n := fun x y hx hy hz => by
    obtain ⟨q1, _, q3⟩ := hg.1 x y (by omega) hy hz
    have := g1 x hx
    exact hin _ hz (by omega)
  have f3 : ∀ x y, x < n → y < p → ac x y < n → pd ac t s x y = ac x y := fun x y hx hy hz => by
    obtain ⟨q1, _, q3⟩ := hg.1 x y (by omega) hy (by omega)
    have l1 := hle x hx
    have l2 := hle _ hz
    unfold pd
    rw [if_pos]
    refine ⟨by omega, ?_⟩
    rcases q3 with q | q
    · exact Or.inl (Nat.lt_of_lt_of_le (hlow x (by omega) (by omega)) hfr)
    · exact Or.inr (Or.inl (Nat.lt_of_lt_of_le (hlow _ q1 (by omega)) hfr))
  have m1n : (-1 : Int32) < nI n := Int32.lt_of_lt_of_le (b := 0) (by decide) (nI_pos' (by omega))
  have cut : ∀ z, z ≤ 2000 → (if pl_e z < nI n then pl_e z else -1) = pl_e (if z < n then z else 2000) := fun z hz => by
    by_cases c : z < n
    · rw [if_pos c]
      unfold pl_e
      rw [if_pos (show z < 2000 by omega), if_pos (nI_lt c (by omega))]
    · rw [if_neg c, show pl_e 2000 = -1 from rfl]
      unfold pl_e
      by_cases c2 : z < 2000
      · rw [if_pos c2, if_neg (nI_nlt (by omega) (by omega))]
      · rw [if_neg c2, if_pos m1n]
  have cutb : ∀ z, (if pl_e z < nI n then pl_e z else -1) = pl_e (if z < n then z else 2000) := fun z => by
    by_cases c : z ≤ 2000
    · exact cut z c
    · rw [if_neg (show ¬ z < n by omega), show pl_e z = -1 from pl_e_m1.mpr (by omega), if_pos m1n]; rfl
  have low : ∀ x y, x < n → y < p → (pd ac t s x y < x ∨ (if ac x y < n then ac x y else 2000) < x) → pd ac t s x y = if ac x y < n then ac x y else 2000 := fun x y hx hy hz => by
    by_cases c : ac x y < n
    · rw [if_pos c]; exact f3 x y hx hy c
    · rw [if_neg c] at hz
      rcases hz with hz | hz
      · rw [pd_le (by omega)] at hz; omega
      · omega
  have low2 : ∀ x y, x < n → y < p → (ac x y < x ∨ pd ac t s x y < x) → ac x y = pd ac t s x y := fun x y hx hy hz => by
    by_cases c : ac x y < n
    · exact (f3 x y hx hy c).symm
    · rcases hz with hz | hz
      · omega
      · exact (pd_le (by omega)).symm
  have wn1 : wy p n ac (J 12) := ⟨c4.1, fun x h0 hx => c4.2 x h0 (by omega)⟩
  have wn2 : wy p n (pd ac t s) (J2 14) := ⟨r6.1, fun x h0 hx => r6.2 x h0 (by omega)⟩
  refine ⟨⟨p8, by omega, hn, by omega⟩, ⟨(a3 6 8 (by omega) (by omega)).trans h8, (b4 0 1 (by omega) (by omega)).trans r1, a1, b1, (a3 6 10 (by omega) (by omega)).trans h10, (b4 0 22 (by omega) (by omega)).trans h22, fun k hk => ?_⟩, fun x hx => ⟨(a3 10 x (by omega) (by omega)).trans (h5 x (by omega)).1.1, (b4 8 x (by omega) (by omega)).trans (r5 x (by omega)).1, hle x hx, ?_, ?_, fun y hy => ⟨?_, ?_⟩, fun y hy hy8 => ⟨?_, ?_⟩, fun hl y hy => ?_⟩, ⟨fun x y hx hy hz => ?_, fun x u hx hu => hg.2 x u hx (by omega)⟩, g0, (b4 10 0 (by omega) (by omega)).trans m1, fun x h0 hx => ?_⟩
  · rw [a3 13 k (by omega) (by omega), b4 13 k (by omega) (by omega)]; exact h13 k hk
  · rw [b4 9 x (by omega) (by omega), (r5 x (by omega)).2.1]
    exact congrArg nI (ln_same (fun y hy => low x y hx hy))
  · exact wy_same wn2 wn1 low2 x hx
  · by_cases c : fr ≤ x
    · rw [a2 _ (by omega) (by omega), ((h5 x (by omega)).2 y hy).1]; exact cutb _
    · rw [a3 9 _ (by omega) (by omega), ((h5 x (by omega)).2 y hy).1]
      show pl_e (ac x y) = pl_e (if ac x y < n then ac x y else 2000)
      by_cases c2 : ac x y < 2000
      · rw [if_pos (f2 x y (by omega) hy c2)]
      · rw [if_neg (by omega), pl_e_m1.mpr c2]; rfl
  · have e7 := (r5 x (by omega)).2.2.1 y hy
    have pdn : pl_e (if pd ac t s x y < n then pd ac t s x y else 2000) = pl_e (if ac x y < n then ac x y else 2000) := by
      by_cases c : ac x y < n
      · rw [f3 x y hx hy c]
      · rw [if_neg c, if_neg]
        intro z
        rw [pd_le (by omega)] at z
        exact c z
    by_cases c : fr ≤ x
    · rw [b2 x y c hx hy, e7, cutb]; exact pdn
    · show _ = pl_e (if ac x y < n then ac x y else 2000)
      rw [b3 x y (by omega) (by omega), e7, ← pdn]
      by_cases c2 : pd ac t s x y < 2000
      · rw [if_pos]
        have q := pd_le c2
        rw [q] at c2 ⊢
        exact f2 x y (by omega) hy c2
      · rw [if_neg (by omega), pl_e_m1.mpr c2]; rfl
  · by_cases c : fr ≤ x
    · rw [a2 _ (by omega) (by omega), c3 x y (by omega) hy hy8, if_pos m1n]
    · rw [a3 9 _ (by omega) (by omega)]; exact c3 x y (by omega) hy hy8
  · rw [b3 x y hy8 (by omega)]; exact (r5 x (by omega)).2.2.2 y hy hy8
  · have hxf := hlow x (by omega) hl
    have q := f2 x y hxf hy (hall x y (by omega) hy)
    show (if ac x y < n then ac x y else 2000) < n
    rw [if_pos q]; exact q
  · have hz' : (if ac x y < n then ac x y else 2000) < 2000 := hz
    show (if ac x y < n then ac x y else 2000) < n ∧ (if ac (if ac x y < n then ac x y else 2000) y < n then ac (if ac x y < n then ac x y else 2000) y else 2000) = x ∧ (rg (if ac x y < n then ac x y else 2000) = rg x + 1 ∨ rg x = rg (if ac x y < n then ac x y else 2000) + 1)
    by_cases c : ac x y < n
    · rw [if_pos c] at hz' ⊢
      obtain ⟨q1, q2, q3⟩ := hg.1 x y (by omega) hy hz'
      refine ⟨c, ?_, q3⟩
      rw [q2, if_pos hx]
    · rw [if_neg c] at hz'; omega
  · obtain ⟨s, u, k1, k2, k3, k4, k5, k6, k7, k8⟩ := m2 x h0 (by omega)
    refine ⟨s, u, k1, k2, (a3 11 x (by omega) (by omega)).trans k3, (b4 12 x (by omega) (by omega)).trans k4, (b4 11 x (by omega) (by omega)).trans k5, ?_, k7, ?_⟩
    · show (if ac x s < n then ac x s else 2000) = u
      rw [k6, if_pos (show u < n by omega)]
    · rw [b4 10 x (by omega) (by omega), b4 10 u (by omega) (by omega), b4 22 s (by omega) (by omega)]; exact k8
end JT3
