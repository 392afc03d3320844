/-! ===== three sides: a board is laid by reckoning (1): tables in one number ===== -/
def fl (w T i : Nat) : Nat := Nat.mod (Nat.shiftRight T (Nat.mul w i)) (Nat.pow 2 w)
theorem fl_bit (w T i k : Nat) : (fl w T i).testBit k = (decide (k < w) && T.testBit (w * i + k)) := by
  show ((T >>> (w * i)) % 2 ^ w).testBit k = _
  rw [Nat.testBit_mod_two_pow, Nat.testBit_shiftRight]
theorem fl_lt (w T i : Nat) : fl w T i < 2 ^ w := Nat.mod_lt _ (Nat.two_pow_pos w)
theorem fl_0 (w i : Nat) : fl w 0 i = 0 := by
  apply Nat.eq_of_testBit_eq
  intro k
  rw [fl_bit, Nat.zero_testBit, Nat.zero_testBit, Bool.and_false]
def fp (w T v i : Nat) : Nat := Nat.lor T (Nat.shiftLeft v (Nat.mul w i))
theorem fl_put {w T v i : Nat} (hv : v < 2 ^ w) (j : Nat) : fl w (fp w T v i) j = if j = i then fl w T i ||| v else fl w T j := by
  apply Nat.eq_of_testBit_eq
  intro k
  rw [fl_bit]
  show (decide (k < w) && (T ||| v <<< (w * i)).testBit (w * j + k)) = _
  rw [Nat.testBit_or, Nat.testBit_shiftLeft]
  by_cases hk : k < w
  · rw [decide_eq_true hk, Bool.true_and]
    by_cases e : j = i
    · subst e
      rw [if_pos rfl, Nat.testBit_or, fl_bit, decide_eq_true hk, Bool.true_and, decide_eq_true (show w * j + k ≥ w * j by omega), Bool.true_and, show w * j + k - w * j = k by omega]
    · rw [if_neg e, fl_bit, decide_eq_true hk, Bool.true_and]
      have z : (decide (w * j + k ≥ w * i) && v.testBit (w * j + k - w * i)) = false := by
        by_cases c : j < i
        · have q : w * (j + 1) ≤ w * i := Nat.mul_le_mul_left _ c
          rw [Nat.mul_add, Nat.mul_one] at q
          rw [decide_eq_false (by omega), Bool.false_and]
        · have q : w * (i + 1) ≤ w * j := Nat.mul_le_mul_left _ (by omega)
          rw [Nat.mul_add, Nat.mul_one] at q
          rw [Nat.testBit_lt_two_pow (Nat.lt_of_lt_of_le hv (Nat.pow_le_pow_right (by decide) (show w ≤ w * j + k - w * i by omega))), Bool.and_false]
      rw [z, Bool.or_false]
  · rw [decide_eq_false hk, Bool.false_and]
    by_cases e : j = i
    · rw [if_pos e, Nat.testBit_or, fl_bit, decide_eq_false hk, Bool.false_and, Bool.false_or]
      exact (Nat.testBit_lt_two_pow (Nat.lt_of_lt_of_le hv (Nat.pow_le_pow_right (by decide) (by omega)))).symm
    · rw [if_neg e, fl_bit, decide_eq_false hk, Bool.false_and]
theorem fl_put0 {w T v i : Nat} (hv : v < 2 ^ w) (h0 : fl w T i = 0) (j : Nat) : fl w (fp w T v i) j = if j = i then v else fl w T j := by
  rw [fl_put hv]
  by_cases e : j = i
  · rw [if_pos e, if_pos e, h0, Nat.zero_or]
  · rw [if_neg e, if_neg e]
/-- rows of fields -/
theorem fl_gat {w : Nat} {f : Nat → Nat} : ∀ p, (∀ j, j < p → f j < 2 ^ w) → pgat w f p < 2 ^ (w * p) ∧ ∀ j, j < p → fl w (pgat w f p) j = f j := by
  intro p
  induction p with
  | zero => intro _; exact ⟨by show 0 < 2 ^ (w * 0); exact Nat.two_pow_pos _, fun j hj => absurd hj (Nat.not_lt_zero j)⟩
  | succ p ih =>
    intro h
    obtain ⟨i1, i2⟩ := ih (fun j hj => h j (by omega))
    have hp := h p (Nat.lt_succ_self p)
    have e : pgat w f (p + 1) = pgat w f p + 2 ^ (w * p) * f p := by
      show pgat w f p + (f p) <<< (w * p) = _
      rw [Nat.shiftLeft_eq, Nat.mul_comm]
    rw [e]
    constructor
    · rw [Nat.mul_add, Nat.mul_one, Nat.pow_add]
      have q : 2 ^ (w * p) * (f p + 1) ≤ 2 ^ (w * p) * 2 ^ w := Nat.mul_le_mul_left _ hp
      rw [Nat.mul_add, Nat.mul_one] at q
      omega
    · intro j hj
      apply Nat.eq_of_testBit_eq
      intro k
      rw [fl_bit, bit_split i1]
      by_cases hk : k < w
      · rw [decide_eq_true hk, Bool.true_and]
        by_cases c : j < p
        · have q : w * (j + 1) ≤ w * p := Nat.mul_le_mul_left _ c
          rw [Nat.mul_add, Nat.mul_one] at q
          rw [if_pos (by omega), ← i2 j c, fl_bit, decide_eq_true hk, Bool.true_and]
        · have ej : j = p := by omega
          subst ej
          rw [if_neg (by omega), show w * j + k - w * j = k by omega]
      · rw [decide_eq_false hk, Bool.false_and]
        exact (Nat.testBit_lt_two_pow (Nat.lt_of_lt_of_le (h j hj) (Nat.pow_le_pow_right (by decide) (by omega)))).symm
/-- two rows in one: the second behind 128 bits -/
theorem fl_two {a b : Nat} (ha : a < 2 ^ 128) : (∀ j, j < 4 → fl 32 (a + b <<< 128) j = fl 32 a j) ∧ ∀ j, fl 32 (a + b <<< 128) (4 + j) = fl 32 b j := by
  have e : a + b <<< 128 = a + 2 ^ 128 * b := by rw [Nat.shiftLeft_eq, Nat.mul_comm]
  rw [e]
  constructor
  · intro j hj
    apply Nat.eq_of_testBit_eq
    intro k
    rw [fl_bit, fl_bit, bit_split ha]
    by_cases hk : k < 32
    · rw [if_pos (by omega)]
    · rw [decide_eq_false hk, Bool.false_and, Bool.false_and]
  · intro j
    apply Nat.eq_of_testBit_eq
    intro k
    rw [fl_bit, fl_bit, bit_split ha, if_neg (by omega), show 32 * (4 + j) + k - 128 = 32 * j + k by omega]
/-! the walk round a corner -/
def de (e : Nat) : Nat := if e = 0 then 2000 else e - 1
def rd (A x y : Nat) : Nat := de (fl 12 A (5 * x + y))
def kg (A x : Nat) : Nat := fl 12 A (Nat.add (Nat.mul 5 x) 4)
noncomputable def kr (A x y : Nat) : Nat := nst (fl 12 A (Nat.add (Nat.mul 5 x) y)) fun e => bif Nat.beq e 0 then 2000 else Nat.sub e 1
theorem kr_eq (A x y : Nat) : kr A x y = rd A x y := by
  unfold kr rd de
  rw [nst_eq]
  show (bif Nat.beq (fl 12 A (5 * x + y)) 0 then 2000 else fl 12 A (5 * x + y) - 1) = _
  by_cases c : fl 12 A (5 * x + y) = 0
  · rw [if_pos c, c]; rfl
  · rw [if_neg c, Bool.eq_false_iff.mpr (fun z => c (Nat.eq_of_beq_eq_true z))]; rfl
noncomputable def kdn (A w k : Nat) : Nat → Nat → Nat := Nat.rec (motive := fun _ => Nat → Nat → Nat) (fun t y => Nat.add (Nat.mul 4 t) (Nat.add y 1)) (fun _ ih t y => nst (kr A t y) fun u => bif Nat.blt u 2000 then (bif Nat.blt (kg A u) (kg A t) then nst (Nat.sub w y) (ih u) else 0) else 0) k
noncomputable def kup (A w k : Nat) : Nat → Nat → Nat := Nat.rec (motive := fun _ => Nat → Nat → Nat) (fun t _ => t) (fun _ ih t y => bif Nat.blt t 2000 then nst (kr A t y) (fun u => nst (Nat.sub w y) (ih u)) else t) k
noncomputable def kjr (A w m t y : Nat) : Nat := bif Nat.beq m 0 then 2000 else nst (kdn A w (Nat.sub m 1) t y) fun d => bif Nat.beq d 0 then 2000 else nst (Nat.div (Nat.sub d 1) 4) fun z => nst (Nat.mod (Nat.sub d 1) 4) fun y' => kup A w (Nat.sub m 1) z y'
section KW1
variable {A w a b : Nat}
theorem kdn_eq (hw : w = a + b) : ∀ (k t y : Nat), t < 2000 → (y = a ∨ y = b) → kdn A w k t y = (if (jr_dn (rd A) (kg A) w k t y).1 < 2000 then 4 * (jr_dn (rd A) (kg A) w k t y).1 + ((jr_dn (rd A) (kg A) w k t y).2 + 1) else 0) ∧ ((jr_dn (rd A) (kg A) w k t y).2 = a ∨ (jr_dn (rd A) (kg A) w k t y).2 = b) := by
  intro k
  induction k with
  | zero => intro t y ht hy; exact ⟨(if_pos ht).symm, hy⟩
  | succ k ih =>
    intro t y ht hy
    have e1 : kdn A w (k + 1) t y = nst (kr A t y) fun u => bif Nat.blt u 2000 then (bif Nat.blt (kg A u) (kg A t) then nst (Nat.sub w y) (kdn A w k u) else 0) else 0 := rfl
    have e2 : jr_dn (rd A) (kg A) w (k + 1) t y = if rd A t y < 2000 ∧ kg A (rd A t y) < kg A t then jr_dn (rd A) (kg A) w k (rd A t y) (w - y) else (2000, y) := rfl
    rw [e1, nst_eq, kr_eq]
    by_cases c : rd A t y < 2000
    · rw [blt_t c]
      by_cases c2 : kg A (rd A t y) < kg A t
      · rw [blt_t c2, e2.trans (if_pos (And.intro c c2))]
        show nst (w - y) (kdn A w k (rd A t y)) = _ ∧ _
        rw [nst_eq]
        exact ih (rd A t y) (w - y) c (by omega)
      · rw [blt_f c2, e2.trans (if_neg (fun z : rd A t y < 2000 ∧ kg A (rd A t y) < kg A t => c2 z.2))]
        exact ⟨rfl, hy⟩
    · rw [blt_f c, e2.trans (if_neg (fun z : rd A t y < 2000 ∧ kg A (rd A t y) < kg A t => c z.1))]
      exact ⟨rfl, hy⟩
theorem kup_eq : ∀ (k t y : Nat), kup A w k t y = jr_up (rd A) w k t y := by
  intro k
  induction k with
  | zero => intro t y; rfl
  | succ k ih =>
    intro t y
    have e1 : kup A w (k + 1) t y = bif Nat.blt t 2000 then nst (kr A t y) (fun u => nst (Nat.sub w y) (kup A w k u)) else t := rfl
    have e2 : jr_up (rd A) w (k + 1) t y = if t < 2000 then jr_up (rd A) w k (rd A t y) (w - y) else t := rfl
    rw [e1, e2]
    by_cases c : t < 2000
    · rw [blt_t c, if_pos c]
      show nst (kr A t y) (fun u => nst (w - y) (kup A w k u)) = _
      rw [nst_eq, nst_eq, kr_eq]
      exact ih _ _
    · rw [blt_f c, if_neg c]; rfl
theorem kjr_eq (hw : w = a + b) (ha : a < 4) (hb : b < 4) {m t y : Nat} (ht : t < 2000) (hy : y = a ∨ y = b) : kjr A w m t y = jr (rd A) (kg A) w m t y := by
  unfold kjr jr
  by_cases c : m = 0
  · rw [if_pos c, c]; rfl
  · rw [if_neg c, beq_f c]
    obtain ⟨d1, d2⟩ := kdn_eq (A := A) hw (m - 1) t y ht hy
    show nst (kdn A w (m - 1) t y) (fun d => bif Nat.beq d 0 then 2000 else nst (Nat.div (Nat.sub d 1) 4) fun z => nst (Nat.mod (Nat.sub d 1) 4) fun y' => kup A w (Nat.sub m 1) z y') = _
    rw [nst_eq, d1]
    by_cases c2 : (jr_dn (rd A) (kg A) w (m - 1) t y).1 < 2000
    · rw [if_pos c2, if_pos c2, beq_f (by omega)]
      generalize jr_dn (rd A) (kg A) w (m - 1) t y = D at d2
      show nst ((4 * D.1 + (D.2 + 1) - 1) / 4) (fun z => nst ((4 * D.1 + (D.2 + 1) - 1) % 4) fun y' => kup A w (m - 1) z y') = _
      rw [nst_eq, nst_eq, kup_eq, show (4 * D.1 + (D.2 + 1) - 1) / 4 = D.1 by omega, show (4 * D.1 + (D.2 + 1) - 1) % 4 = D.2 by omega]
    · rw [if_neg c2, if_neg c2]; rfl
end KW1
/-- a walk reads only what lies within -/
theorem jr_dn_congr {ac ac' : Nat → Nat → Nat} {rg rg' : Nat → Nat} {N w a b : Nat} (hw : w = a + b) (h : ∀ x y, x < N → (y = a ∨ y = b) → ac x y = ac' x y ∧ (ac x y < 2000 → ac x y < N)) (hr : ∀ x, x < N → rg x = rg' x) : ∀ (k t y : Nat), t < N → (y = a ∨ y = b) → jr_dn ac rg w k t y = jr_dn ac' rg' w k t y ∧ ((jr_dn ac rg w k t y).1 < 2000 → (jr_dn ac rg w k t y).1 < N) ∧ ((jr_dn ac rg w k t y).2 = a ∨ (jr_dn ac rg w k t y).2 = b) := by
  intro k
  induction k with
  | zero => intro t y ht hy; exact ⟨rfl, fun _ => ht, hy⟩
  | succ k ih =>
    intro t y ht hy
    obtain ⟨h1, h2⟩ := h t y ht hy
    have e1 : jr_dn ac rg w (k + 1) t y = if ac t y < 2000 ∧ rg (ac t y) < rg t then jr_dn ac rg w k (ac t y) (w - y) else (2000, y) := rfl
    have e2 : jr_dn ac' rg' w (k + 1) t y = if ac' t y < 2000 ∧ rg' (ac' t y) < rg' t then jr_dn ac' rg' w k (ac' t y) (w - y) else (2000, y) := rfl
    rw [e1, e2, ← h1]
    by_cases c : ac t y < 2000
    · have un := h2 c
      rw [← hr _ un, ← hr t ht]
      by_cases c2 : rg (ac t y) < rg t
      · rw [if_pos ⟨c, c2⟩, if_pos ⟨c, c2⟩]
        exact ih _ _ un (by omega)
      · rw [if_neg (fun z => c2 z.2), if_neg (fun z => c2 z.2)]
        exact ⟨rfl, fun z => absurd z (Nat.lt_irrefl 2000), hy⟩
    · rw [if_neg (fun z => c z.1), if_neg (fun z => c z.1)]
      exact ⟨rfl, fun z => absurd z (Nat.lt_irrefl 2000), hy⟩
theorem jr_up_congr {ac ac' : Nat → Nat → Nat} {N w a b : Nat} (hw : w = a + b) (h : ∀ x y, x < N → (y = a ∨ y = b) → ac x y = ac' x y ∧ (ac x y < 2000 → ac x y < N)) : ∀ (k t y : Nat), (t < 2000 → t < N) → (y = a ∨ y = b) → jr_up ac w k t y = jr_up ac' w k t y := by
  intro k
  induction k with
  | zero => intro t y _ _; rfl
  | succ k ih =>
    intro t y ht hy
    have e1 : jr_up ac w (k + 1) t y = if t < 2000 then jr_up ac w k (ac t y) (w - y) else t := rfl
    have e2 : jr_up ac' w (k + 1) t y = if t < 2000 then jr_up ac' w k (ac' t y) (w - y) else t := rfl
    rw [e1, e2]
    by_cases c : t < 2000
    · obtain ⟨h1, h2⟩ := h t y (ht c) hy
      rw [if_pos c, if_pos c, ← h1]
      exact ih _ _ h2 (by omega)
    · rw [if_neg c, if_neg c]
theorem jr_congr {ac ac' : Nat → Nat → Nat} {rg rg' : Nat → Nat} {N w a b : Nat} (hw : w = a + b) (h : ∀ x y, x < N → (y = a ∨ y = b) → ac x y = ac' x y ∧ (ac x y < 2000 → ac x y < N)) (hr : ∀ x, x < N → rg x = rg' x) {m t y : Nat} (ht : t < N) (hy : y = a ∨ y = b) : jr ac rg w m t y = jr ac' rg' w m t y := by
  obtain ⟨d1, d2, d3⟩ := jr_dn_congr hw h hr (m - 1) t y ht hy
  unfold jr
  rw [← d1]
  by_cases c : m = 0
  · rw [if_pos c, if_pos c]
  · rw [if_neg c, if_neg c]
    by_cases c2 : (jr_dn ac rg w (m - 1) t y).1 < 2000
    · rw [if_pos c2, if_pos c2]
      exact jr_up_congr hw h _ _ _ d2 d3
    · rw [if_neg c2, if_neg c2]
/-! tables of neighbours and rings -/
def TA (p n : Nat) (ac : Nat → Nat → Nat) (rg : Nat → Nat) (A : Nat) : Prop := (∀ x y, x < n → y < p → ac x y = rd A x y ∧ fl 12 A (5 * x + y) ≤ 2000) ∧ (∀ x, x < n → rg x = kg A x) ∧ ∀ i, 5 * n ≤ i → fl 12 A i = 0
def kjn (A f s c : Nat) : Nat := fp 12 (fp 12 A (Nat.add c 1) (Nat.add (Nat.mul 5 f) s)) (Nat.add f 1) (Nat.add (Nat.mul 5 c) s)
section TA1
variable {p n : Nat} {ac : Nat → Nat → Nat} {rg : Nat → Nat} {A : Nat}
theorem de_lt {e : Nat} (h : e ≤ 2000) : (de e < 2000 ↔ e ≠ 0) ∧ (¬ de e < 2000 → e = 0) ∧ (e ≠ 0 → de e + 1 = e) := by
  unfold de
  by_cases c : e = 0
  · rw [if_pos c]; omega
  · rw [if_neg c]; omega
theorem kjn_fl {f s c : Nat} (hf : f < 2000) (hc : c < 2000) (hs : s < 4) (hfc : f ≠ c) (z1 : fl 12 A (5 * f + s) = 0) (z2 : fl 12 A (5 * c + s) = 0) (i : Nat) : fl 12 (kjn A f s c) i = if i = 5 * c + s then f + 1 else if i = 5 * f + s then c + 1 else fl 12 A i := by
  have b1 : c + 1 < 2 ^ 12 := by omega
  have b2 : f + 1 < 2 ^ 12 := by omega
  have q1 := fl_put0 (i := 5 * f + s) b1 z1
  have z3 : fl 12 (fp 12 A (c + 1) (5 * f + s)) (5 * c + s) = 0 := by
    rw [q1, if_neg (by omega)]; exact z2
  have q2 := fl_put0 (i := 5 * c + s) b2 z3 i
  show fl 12 (fp 12 (fp 12 A (c + 1) (5 * f + s)) (f + 1) (5 * c + s)) i = _
  rw [q2, q1]
/-- a join keeps the tie -/
theorem TA_jn {f r : Nat} (hp : p ≤ 4) (h : TA p (n + 1) ac rg A) (hn : n < 2000) (hf : f < n) (hr : r < p) (z1 : fl 12 A (5 * f + r) = 0) (z2 : fl 12 A (5 * n + r) = 0) : TA p (n + 1) (ac_j ac f r n) rg (kjn A f r n) := by
  obtain ⟨h1, h2, h3⟩ := h
  have q := kjn_fl (A := A) (f := f) (s := r) (c := n) (by omega) hn (by omega) (by omega) z1 z2
  refine ⟨fun x y hx hy => ?_, fun x hx => ?_, fun i hi => ?_⟩
  · obtain ⟨g1, g2⟩ := h1 x y hx hy
    show (if x = n ∧ y = r then f else if x = f ∧ y = r then n else ac x y) = de (fl 12 (kjn A f r n) (5 * x + y)) ∧ _
    rw [q]
    by_cases c1 : x = n ∧ y = r
    · rw [if_pos c1, if_pos (show 5 * x + y = 5 * n + r by omega)]
      exact ⟨rfl, by omega⟩
    · rw [if_neg c1, if_neg (show ¬ 5 * x + y = 5 * n + r by omega)]
      by_cases c2 : x = f ∧ y = r
      · rw [if_pos c2, if_pos (show 5 * x + y = 5 * f + r by omega)]
        exact ⟨rfl, by omega⟩
      · rw [if_neg c2, if_neg (show ¬ 5 * x + y = 5 * f + r by omega)]
        exact ⟨g1, g2⟩
  · rw [h2 x hx]
    show fl 12 A (5 * x + 4) = fl 12 (kjn A f r n) (5 * x + 4)
    rw [q, if_neg (by omega), if_neg (by omega)]
  · rw [q, if_neg (by omega), if_neg (by omega)]
    exact h3 i hi
/-- the new tile: its ring, and the tile that makes it -/
theorem TA_new {t s g : Nat} (hp : p ≤ 4) (h : TA p n ac rg A) (hn : n < 2000) (ht : t < n) (hs : s < p) (hg : g = rg t + 1) (hg2 : g < 63) (z1 : fl 12 A (5 * t + s) = 0) : TA p (n + 1) (nb_a2 ac n t s) (nb_rg rg n t) (kjn (fp 12 A g (5 * n + 4)) t s n) := by
  obtain ⟨h1, h2, h3⟩ := h
  have b1 : g < 2 ^ 12 := by omega
  have q0 := fl_put0 (T := A) (i := 5 * n + 4) b1 (h3 _ (by omega))
  have hT : TA p (n + 1) (fun x y => if x = n then 2000 else ac x y) (nb_rg rg n t) (fp 12 A g (5 * n + 4)) := by
    refine ⟨fun x y hx hy => ?_, fun x hx => ?_, fun i hi => ?_⟩
    · show (if x = n then 2000 else ac x y) = de (fl 12 (fp 12 A g (5 * n + 4)) (5 * x + y)) ∧ _
      rw [q0, if_neg (show ¬ 5 * x + y = 5 * n + 4 by omega)]
      by_cases c : x = n
      · rw [if_pos c, h3 _ (by omega)]
        exact ⟨rfl, by omega⟩
      · rw [if_neg c]
        exact h1 x y (by omega) hy
    · unfold nb_rg
      show _ = fl 12 (fp 12 A g (5 * n + 4)) (5 * x + 4)
      rw [q0]
      by_cases c : x = n
      · rw [if_pos c, if_pos (show 5 * x + 4 = 5 * n + 4 by omega), hg]
      · rw [if_neg c, if_neg (show ¬ 5 * x + 4 = 5 * n + 4 by omega)]
        exact h2 x (by omega)
    · rw [q0, if_neg (by omega)]
      exact h3 i (by omega)
  have e : nb_a2 ac n t s = ac_j (fun x y => if x = n then 2000 else ac x y) t s n := by
    unfold nb_a2 ac_jn
    rw [if_pos (show t < 2000 by omega)]
  rw [e]
  exact TA_jn hp hT hn ht hs (by rw [q0, if_neg (by omega)]; exact z1) (by rw [q0, if_neg (by omega)]; exact h3 _ (by omega))
end TA1
