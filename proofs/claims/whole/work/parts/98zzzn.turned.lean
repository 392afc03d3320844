/-! ===== boards turned and mirrored ===== -/
/-- nowhere has a tile the vector of a neighbour that isn't there -/
def HN (p : Nat) (cs : Nat → Nat) : Prop := ∀ n ac rg V1 V2 t s, pi_t p cs n ac rg V1 V2 t s → ∀ y, y < p → ¬ ac t y < 2000 → ∀ u, u < n → ¬ rv_e p (V1 u) (V2 u) (rv_w1 p cs V1 t y) (rv_w2 p cs V2 t y)
theorem HN_W {p K : Nat} {cs : Nat → Nat} (hp4 : 4 ≤ p) (hcs : ∀ j, j < p → cs j < 10 ∧ cs j ≠ 1) (hW : wd_W p cs K) : HN p cs := fun n ac rg V1 V2 t s h y hy ha u hu he => wd_no hp4 hcs hW h hy ha hu he
theorem HN_pg {p : Nat} {cs : Nat → Nat} (hp4 : 4 ≤ p) (hcs : ∀ j, j < p → cs j < 10 ∧ cs j ≠ 1) (h : HN p cs) : ∃ Q, pg_ok p cs Q := ⟨_, pi_ok hp4 hcs (fun n ac rg V1 V2 t s hi hs ha => h n ac rg V1 V2 t s hi s hs ha)⟩
section TU1
variable {p : Nat} {cs cs' σ τ : Nat → Nat}
theorem up_tu {ac : Nat → Nat → Nat} {a b z : Nat} : ∀ {k x : Nat}, up ac (σ a) (σ b) z k x → up (fun x y => ac x (σ y)) a b z k x := by
  intro k
  induction k with
  | zero => intro x h; exact h
  | succ k ih =>
    intro x h
    obtain ⟨x', h1, h2, h3, h4, h5⟩ := h
    have e : al (σ a) (σ b) k = σ (al a b k) := by
      unfold al
      by_cases c : k % 2 = 0
      · rw [if_pos c, if_pos c]
      · rw [if_neg c, if_neg c]
    rw [e] at h4 h5
    exact ⟨x', ih h1, h2, h3, h4, h5⟩
theorem res_tu {ac : Nat → Nat → Nat} {x a b m : Nat} (h : res ac x (σ a) (σ b) m) : res (fun x y => ac x (σ y)) x a b m := by
  have e : ∀ a b k, al (σ a) (σ b) k = σ (al a b k) := fun a b k => by
    unfold al
    by_cases c : k % 2 = 0
    · rw [if_pos c, if_pos c]
    · rw [if_neg c, if_neg c]
  obtain ⟨z, k, h1, h2, h3⟩ := h
  refine ⟨z, k, h1, h2, ?_⟩
  rcases h3 with h | ⟨h4, h5, h6⟩ | ⟨h4, h5, h6, h7⟩
  · exact Or.inl h
  · refine Or.inr (Or.inl ⟨h4, h5, ?_⟩)
    rcases h6 with ⟨g1, g2⟩ | ⟨g1, g2⟩ <;> rw [e] at g2
    · exact Or.inl ⟨up_tu g1, g2⟩
    · exact Or.inr ⟨up_tu g1, g2⟩
  · exact Or.inr (Or.inr ⟨h4, h5, up_tu h6, up_tu h7⟩)
/-- a board whose sides are counted otherwise -/
theorem HN_tu (hs : ∀ y, y < p → σ y < p ∧ τ y < p ∧ σ (τ y) = y ∧ τ (σ y) = y) (hm : ∀ y j, y < p → j < p → an_m p cs' y j = an_m p cs (σ y) (σ j)) (ha : ∀ y y', y < p → y' < p → (σ y' = (σ y + 1) % p ∨ σ y = (σ y' + 1) % p) → (y' = (y + 1) % p ∨ y = (y' + 1) % p)) (hr : ∀ (ac : Nat → Nat → Nat) (x a : Nat), a < p → (∀ b, b < p → res ac x b ((b + 1) % p) (cs b)) → res ac x (σ a) (σ ((a + 1) % p)) (cs' a)) (h : HN p cs') : HN p cs := by
  intro n ac rg V1 V2 t s hi y hy hn u hu he
  have inj : ∀ a b, a < p → b < p → (σ a = σ b ↔ a = b) := fun a b ha hb => ⟨fun e => by rw [← (hs a ha).2.2.2, ← (hs b hb).2.2.2, e], fun e => by rw [e]⟩
  have w1 : ∀ (V : Nat → Nat → Nat) x y j, y < p → j < p → rv_w1 p cs' (fun x j => V x (σ j)) x y j = rv_w1 p cs V x (σ y) (σ j) := fun V x y j hy hj => by
    show (if j = y then _ else _) = (if σ j = σ y then _ else _)
    by_cases c : j = y
    · rw [if_pos c, if_pos ((inj j y hj hy).mpr c)]
    · rw [if_neg c, if_neg (fun z => c ((inj j y hj hy).mp z))]
      show (V x (σ j) + an_c1 (an_m p cs' y j) * V x (σ y)) % an_P1 = _
      rw [hm y j hy hj]
  have w2 : ∀ (V : Nat → Nat → Nat) x y j, y < p → j < p → rv_w2 p cs' (fun x j => V x (σ j)) x y j = rv_w2 p cs V x (σ y) (σ j) := fun V x y j hy hj => by
    show (if j = y then _ else _) = (if σ j = σ y then _ else _)
    by_cases c : j = y
    · rw [if_pos c, if_pos ((inj j y hj hy).mpr c)]
    · rw [if_neg c, if_neg (fun z => c ((inj j y hj hy).mp z))]
      show (V x (σ j) + an_c2 (an_m p cs' y j) * V x (σ y)) % an_P2 = _
      rw [hm y j hy hj]
  obtain ⟨⟨i1, i2, i3, i4, ig⟩, ⟨j1, j2, j3, j4⟩, iadj, ires, iV, ilt, i0⟩ := hi
  have hi' : pi_t p cs' n (fun x y => ac x (σ y)) rg (fun x j => V1 x (σ j)) (fun x j => V2 x (σ j)) t 0 := by
    refine ⟨⟨i1, i2, Nat.zero_le _, i4, ⟨fun x y hx hy hz => ?_, ig.2⟩⟩, ⟨fun x y hx hy => j1 x (σ y) hx (hs y hy).1, fun y hy => absurd hy (Nat.not_lt_zero _), j3, fun x h0 hx => ?_⟩, fun x y y' hx hy hy' d1 d2 => ?_, fun x a hx ha' => ?_, fun x y hx hy hl hz => ?_, fun x j hx hj => ilt x (σ j) hx (hs j hj).1, fun j => i0 (σ j)⟩
    · obtain ⟨g1, g2, g3⟩ := ig.1 x (σ y) hx (hs y hy).1 hz
      exact ⟨g1, g2, g3⟩
    · obtain ⟨y, y1, y2⟩ := j4 x h0 hx
      refine ⟨τ y, (hs y y1).2.1, ?_⟩
      show ac x (σ (τ y)) < x
      rw [(hs y y1).2.2.1]; exact y2
    · rcases iadj x (σ y) (σ y') hx (hs y hy).1 (hs y' hy').1 d1 d2 with c | c | c
      · exact Or.inl ((inj y y' hy hy').mp c)
      · exact Or.inr (ha y y' hy hy' (Or.inl c))
      · exact Or.inr (ha y y' hy hy' (Or.inr c))
    · exact res_tu (hr ac x a ha' (fun b hb => ires x b hx hb))
    · intro j hj
      have q := iV x (σ y) hx (hs y hy).1 hl hz (σ j) (hs j hj).1
      rw [w1 V1 x y j hy hj, w2 V2 x y j hy hj]
      exact q
  refine h n _ rg _ _ t 0 hi' (τ y) (hs y hy).2.1 (by show ¬ ac t (σ (τ y)) < 2000; rw [(hs y hy).2.2.1]; exact hn) u hu (fun j hj => ?_)
  rw [w1 V1 t (τ y) j (hs y hy).2.1 hj, w2 V2 t (τ y) j (hs y hy).2.1 hj, (hs y hy).2.2.1]
  exact he (σ j) (hs j hj).1
end TU1
/-- turned by one side -/
theorem HN_rot {p : Nat} {cs : Nat → Nat} (hp : 3 ≤ p) (h : HN p (fun a => cs ((a + 1) % p))) : HN p cs := by
  have lt : ∀ y, (y + 1) % p < p := fun y => Nat.mod_lt _ (by omega)
  refine HN_tu (σ := fun y => (y + 1) % p) (τ := fun y => (y + p - 1) % p) (fun y hy => ⟨lt y, Nat.mod_lt _ (by omega), md_3 hy, ?_⟩) (fun y j hy hj => ?_) (fun y y' hy hy' c => ?_) (fun ac x a ha hb => hb ((a + 1) % p) (lt a)) h
  · show ((y + 1) % p + p - 1) % p = y
    rcases md_1 hy with ⟨x1, x2⟩ | ⟨x1, x2⟩ <;> rcases md_2 (lt y) with ⟨x3, x4⟩ | ⟨x3, x4⟩ <;> omega
  · have inj : ∀ a b, a < p → b < p → ((a + 1) % p = (b + 1) % p ↔ a = b) := fun a b ha hb => by
      rcases md_1 ha with ⟨x1, x2⟩ | ⟨x1, x2⟩ <;> rcases md_1 hb with ⟨x3, x4⟩ | ⟨x3, x4⟩ <;> omega
    show an_m p (fun a => cs ((a + 1) % p)) y j = an_m p cs ((y + 1) % p) ((j + 1) % p)
    unfold an_m
    by_cases c : (y + 1) % p = j
    · rw [if_pos c, if_pos ((inj _ _ (lt y) hj).mpr c)]
    · rw [if_neg c, if_neg (fun z => c ((inj _ _ (lt y) hj).mp z))]
      by_cases c2 : (j + 1) % p = y
      · rw [if_pos c2, if_pos ((inj _ _ (lt j) hy).mpr c2)]
      · rw [if_neg c2, if_neg (fun z => c2 ((inj _ _ (lt j) hy).mp z))]
  · have inj : ∀ a b, a < p → b < p → ((a + 1) % p = (b + 1) % p ↔ a = b) := fun a b ha hb => by
      rcases md_1 ha with ⟨x1, x2⟩ | ⟨x1, x2⟩ <;> rcases md_1 hb with ⟨x3, x4⟩ | ⟨x3, x4⟩ <;> omega
    rcases c with c | c
    · exact Or.inl ((inj y' _ hy' (lt y)).mp c)
    · exact Or.inr ((inj y _ hy (lt y')).mp c)
/-- mirrored -/
theorem HN_mir {p : Nat} {cs : Nat → Nat} (hp : 3 ≤ p) (h : HN p (fun a => cs ((2 * p - 2 - a) % p))) : HN p cs := by
  have q : ∀ a, a < p → (2 * p - 2 - a) % p = (if a = p - 1 then p - 1 else p - 2 - a) := fun a ha => by
    by_cases c : a = p - 1
    · rw [if_pos c, c, show 2 * p - 2 - (p - 1) = p - 1 by omega]; exact Nat.mod_eq_of_lt (by omega)
    · rw [if_neg c, show 2 * p - 2 - a = (p - 2 - a) + p by omega, Nat.add_mod_right]; exact Nat.mod_eq_of_lt (by omega)
  refine HN_tu (σ := fun y => p - 1 - y) (τ := fun y => p - 1 - y) (fun y hy => ⟨by show p - 1 - y < p; omega, by show p - 1 - y < p; omega, by show p - 1 - (p - 1 - y) = y; omega, by show p - 1 - (p - 1 - y) = y; omega⟩) (fun y j hy hj => ?_) (fun y y' hy hy' c => ?_) (fun ac x a ha hb => ?_) h
  · show an_m p (fun a => cs ((2 * p - 2 - a) % p)) y j = an_m p cs (p - 1 - y) (p - 1 - j)
    unfold an_m
    have e1 : (y + 1) % p = j ↔ (p - 1 - j + 1) % p = p - 1 - y := by
      rcases md_1 hy with ⟨x1, x2⟩ | ⟨x1, x2⟩ <;> rcases md_1 (show p - 1 - j < p by omega) with ⟨x3, x4⟩ | ⟨x3, x4⟩ <;> omega
    have e2 : (j + 1) % p = y ↔ (p - 1 - y + 1) % p = p - 1 - j := by
      rcases md_1 hj with ⟨x1, x2⟩ | ⟨x1, x2⟩ <;> rcases md_1 (show p - 1 - y < p by omega) with ⟨x3, x4⟩ | ⟨x3, x4⟩ <;> omega
    have both : ¬ ((y + 1) % p = j ∧ (j + 1) % p = y) := by
      rcases md_1 hy with ⟨x1, x2⟩ | ⟨x1, x2⟩ <;> rcases md_1 hj with ⟨x3, x4⟩ | ⟨x3, x4⟩ <;> omega
    by_cases c : (y + 1) % p = j
    · have c2 : ¬ (j + 1) % p = y := fun z => both ⟨c, z⟩
      rw [if_pos c, if_neg (fun z => c2 (e2.mpr z)), if_pos (e1.mp c)]
      show cs ((2 * p - 2 - y) % p) = _
      rw [q y hy]
      congr 1
      rcases md_1 hy with ⟨x1, x2⟩ | ⟨x1, x2⟩
      · rw [if_neg (by omega)]; omega
      · rw [if_pos (by omega)]; omega
    · rw [if_neg c]
      by_cases c2 : (j + 1) % p = y
      · rw [if_pos c2, if_pos (e2.mp c2)]
        show cs ((2 * p - 2 - j) % p) = _
        rw [q j hj]
        congr 1
        rcases md_1 hj with ⟨x1, x2⟩ | ⟨x1, x2⟩
        · rw [if_neg (by omega)]; omega
        · rw [if_pos (by omega)]; omega
      · rw [if_neg c2, if_neg (fun z => c2 (e2.mpr z)), if_neg (fun z => c (e1.mpr z))]
  · have c' : p - 1 - y' = (p - 1 - y + 1) % p ∨ p - 1 - y = (p - 1 - y' + 1) % p := c
    rcases md_1 hy with ⟨x1, x2⟩ | ⟨x1, x2⟩ <;> rcases md_1 hy' with ⟨x3, x4⟩ | ⟨x3, x4⟩ <;> rcases md_1 (show p - 1 - y < p by omega) with ⟨x5, x6⟩ | ⟨x5, x6⟩ <;> rcases md_1 (show p - 1 - y' < p by omega) with ⟨x7, x8⟩ | ⟨x7, x8⟩ <;> omega
  · show res ac x (p - 1 - a) (p - 1 - (a + 1) % p) (cs ((2 * p - 2 - a) % p))
    have b := hb ((2 * p - 2 - a) % p) (Nat.mod_lt _ (by omega))
    have e3 : (2 * p - 2 - a) % p = p - 1 - (a + 1) % p := by
      rw [q a ha]
      rcases md_1 ha with ⟨x1, x2⟩ | ⟨x1, x2⟩
      · rw [if_neg (by omega)]; omega
      · rw [if_pos (by omega)]; omega
    have e4 : (p - 1 - (a + 1) % p + 1) % p = p - 1 - a := by
      rcases md_1 ha with ⟨x1, x2⟩ | ⟨x1, x2⟩ <;> rcases md_1 (show p - 1 - (a + 1) % p < p by omega) with ⟨x3, x4⟩ | ⟨x3, x4⟩ <;> omega
    rw [e3, e4] at b
    rw [e3]
    exact res_symm b
