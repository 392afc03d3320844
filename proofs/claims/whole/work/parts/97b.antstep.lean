/-! ===== the ant: its steps, pure; both go a step alike ===== -/
/-- Math.floorMod, by a number above 0, else 0 -/
def lf_fm (x p : Int32) : Int32 := if p ≤ 0 then 0 else if 0 ≤ (x ^^^ p) then x - x / p * p else if x - x / p * p = 0 then x - x / p * p else (x - x / p * p) + p
theorem lf_fm_add0 : ∀ x : Fin 17, ∀ y : Fin 9, ∀ p : Fin 9, 0 < p.1 → lf_fm (nI x.1 + nI y.1) (nI p.1) = nI ((x.1 + y.1) % p.1) := by decide +kernel
theorem lf_fm_sub0 : ∀ x : Fin 17, ∀ y : Fin 9, ∀ p : Fin 9, 0 < p.1 → lf_fm (nI x.1 - nI y.1) (nI p.1) = nI ((x.1 + 8 * p.1 - y.1) % p.1) := by decide +kernel
theorem lf_fm_add {x y p : Nat} (hx : x < 17) (hy : y < 9) (h0 : 0 < p) (hp : p ≤ 8) : lf_fm (nI x + nI y) (nI p) = nI ((x + y) % p) := lf_fm_add0 ⟨x, hx⟩ ⟨y, hy⟩ ⟨p, by omega⟩ h0
theorem lf_fm_sub {x y p : Nat} (hx : x < 17) (hy : y < 9) (h0 : 0 < p) (hp : p ≤ 8) : lf_fm (nI x - nI y) (nI p) = nI ((x + 8 * p - y) % p) := lf_fm_sub0 ⟨x, hx⟩ ⟨y, hy⟩ ⟨p, by omega⟩ h0
section LA0
variable {X : ij_R} {d d2 : Nat} {b : Bool} {I I2 : Nat → Nat → Int32} {J J2 : Nat → Nat → Int64}
theorem lx_modulo (x p : Int32) : lk_cx1 X (d + 2) 147 [.int x, .int p] (xk_R b, I, J) (some (.int (lf_fm x p))) (xk_R b, I, J) := by
  refine ik_cr_of (Nat.le_of_ble_eq_true rfl) ?_
  unfold lf_fm
  by_cases h0 : p ≤ 0
  · rw [if_pos h0]
    exact xp_X10_modulo_0_0 I J x p h0
  · rw [if_neg h0]
    have hz : ¬ p = 0 := fun q => h0 (by rw [q]; decide)
    refine xp_X10_modulo_0_1 I J x p _ h0 (ik_cr_of (Nat.le_of_ble_eq_true rfl) ?_) (xp_X10_modulo_9_0 I J _)
    by_cases h1 : 0 ≤ (x ^^^ p)
    · rw [if_pos h1]
      exact xp_J9_floorMod_7cf53_0_0 I J x p hz h1
    · rw [if_neg h1]
      by_cases h2 : x - x / p * p = 0
      · rw [if_pos h2]
        exact xp_J9_floorMod_7cf53_0_1 I J x p hz h1 h2
      · rw [if_neg h2]
        exact xp_J9_floorMod_7cf53_0_2 I J x p hz h1 h2
theorem lx_paint {a : Nat} (ha : a < 2000) : lk_cx1 X (d + 1) 98 [.ref 42, .int (nI a)] (xk_R b, I, J) (some (.int (I 43 a))) (xk_R b, I, J) := by
  have q := xp_X7_paintOn_42_0_2 (C := ik_cr xk_P xk_M xk_Y xk_K X d) (b := b) I J (nI a) (nI_pos (by omega)) (by decide) (nI_ge ha (by decide)) (vp_in_nI ha (by decide))
  rw [nI_clamp (by omega)] at q
  exact ik_cr_of (Nat.le_of_ble_eq_true rfl) q
theorem lx_setPaint {a : Nat} (ha : a < 2000) (v : Int32) : lk_cx1 X (d + 1) 99 [.ref 42, .int (nI a), .int v] (xk_R b, I, J) none (xk_R b, ij_u I 43 a v, J) := by
  have q := xp_X7_setPaint_42_0_2 (C := ik_cr xk_P xk_M xk_Y xk_K X d) (b := b) I J (nI a) v (nI_pos (by omega)) (by decide) (nI_ge ha (by decide)) (vp_in_nI ha (by decide))
  rw [nI_clamp (by omega)] at q
  exact ik_cr_of (Nat.le_of_ble_eq_true rfl) q
theorem lx_turnOf {k : Nat} (hk : k < 8) : lk_cx1 X (d + 1) 8 [.ref 40, .int (nI k)] (xk_R b, I, J) (some (.int (I 41 k))) (xk_R b, I, J) := by
  have q := xp_X0_turnOf_0_2 (C := ik_cr xk_P xk_M xk_Y xk_K X d) (b := b) I J (nI k) (nI_pos (by omega)) (by decide) (nI_ge hk (by decide)) (vp_in_nI hk (by decide))
  rw [nI_clamp (by omega)] at q
  exact ik_cr_of (Nat.le_of_ble_eq_true rfl) q
end LA0
/-- what stays while an ant goes: sides p, tiles T, colours c, turns -/
def la_base (p T c : Nat) (tn : Nat → Nat) (I I2 : Nat → Nat → Int32) : Prop :=
  I 6 8 = nI p ∧ I2 0 1 = nI p ∧ I 6 9 = nI T ∧ I 40 5 = nI c ∧ I2 0 2 = nI c ∧ (0 < p ∧ p ≤ 8) ∧ T ≤ 2000 ∧ (0 < c ∧ c ≤ 8) ∧ (∀ k, k < c → I 41 k = nI (tn k) ∧ I2 2 k = nI (tn k) ∧ tn k < 8) ∧ lr_acr p T (I 9) ∧ (∀ a s, a < T → s < p → I2 7 (8 * a + s) = I 9 (8 * a + s)) ∧ ∀ a s u, a < T → s < p → u < T → I 9 (8 * a + s) = nI u → I 9 (8 * u + s) = nI a
def la_up (f : Nat → Nat) (a v : Nat) : Nat → Nat := fun k => if k = a then v else f k
/-- n steps back from tile a, come by side s, paint f, are what the rows say from place q down -/
def la_back (p T c : Nat) (tn : Nat → Nat) (ac A B : Nat → Int32) : Nat → Nat → Nat → Nat → (Nat → Nat) → Prop
  | 0, _, _, _, _ => True
  | n + 1, q, a, s, f => ∃ u, u < T ∧ ac (8 * a + s) = nI u ∧ A ((q + 999) % 1000) = nI u ∧ B ((q + 999) % 1000) = nI ((s + 8 * p - tn ((f u + 8 * c - 1) % c)) % p) ∧ la_back p T c tn ac A B n ((q + 999) % 1000) u ((s + 8 * p - tn ((f u + 8 * c - 1) % c)) % p) (la_up f u ((f u + 8 * c - 1) % c))
/-- m steps ahead of there can be gone -/
def la_ahead (p T c : Nat) (tn : Nat → Nat) (ac : Nat → Int32) : Nat → Nat → Nat → (Nat → Nat) → Prop
  | 0, _, _, _ => True
  | m + 1, a, s, f => ∃ v, v < T ∧ ac (8 * a + (s + tn (f a)) % p) = nI v ∧ la_ahead p T c tn ac m v ((s + tn (f a)) % p) (la_up f a ((f a + 1) % c))
/-- a stand of both: place, side, undoable, redoable; paint; the rows of steps -/
def la_st (p T c : Nat) (tn : Nat → Nat) (ac : Nat → Int32) (w1 w2 w3 w4 : Int32) (pt : Nat → Int32) (z0 z1 z2 z3 z4 : Int32) (pt2 A B : Nat → Int32) (a s n m q : Nat) (f : Nat → Nat) : Prop :=
  (w1 = nI a ∧ w2 = nI s ∧ w3 = nI n ∧ w4 = nI m) ∧ (z0 = nI a ∧ z1 = nI s ∧ z2 = nI n ∧ z3 = nI m ∧ z4 = nI q) ∧ (a < T ∧ s < p ∧ n + m ≤ 1000 ∧ q < 1000) ∧ (∀ k, k < T → pt k = nI (f k) ∧ pt2 k = nI (f k) ∧ f k < c) ∧ la_back p T c tn ac A B n q a s f ∧ la_ahead p T c tn ac m a s f
abbrev la_now (p T c : Nat) (tn : Nat → Nat) (I I2 : Nat → Nat → Int32) (a s n m q : Nat) (f : Nat → Nat) : Prop := la_st p T c tn (I 9) (I 42 1) (I 42 2) (I 42 3) (I 42 4) (I 43) (I2 0 59) (I2 0 60) (I2 0 61) (I2 0 62) (I2 0 63) (I2 35) (I2 36) (I2 37) a s n m q f
theorem la_up_same (f : Nat → Nat) (a v : Nat) : la_up f a v a = v := if_pos rfl
theorem la_up_ne {f : Nat → Nat} {a v k : Nat} (h : k ≠ a) : la_up f a v k = f k := if_neg h
section LA1
variable {p T c : Nat} {tn : Nat → Nat} {ac : Nat → Int32}
theorem la_back_le {A B : Nat → Int32} : ∀ {n q a s : Nat} {f : Nat → Nat} (n' : Nat), n' ≤ n → la_back p T c tn ac A B n q a s f → la_back p T c tn ac A B n' q a s f := by
  intro n
  induction n with
  | zero =>
    intro q a s f n' h _
    have : n' = 0 := by omega
    subst this
    trivial
  | succ n ih =>
    intro q a s f n' h g
    cases n' with
    | zero => trivial
    | succ n' =>
      obtain ⟨u, g1, g2, g3, g4, g5⟩ := g
      exact ⟨u, g1, g2, g3, g4, ih n' (by omega) g5⟩
/-- only the n places below q are looked at -/
theorem la_back_congr {A B A' B' : Nat → Int32} : ∀ {n q a s : Nat} {f : Nat → Nat}, n ≤ 1000 → q < 1000 → (∀ i, 1 ≤ i → i ≤ n → A' ((q + 1000 - i) % 1000) = A ((q + 1000 - i) % 1000) ∧ B' ((q + 1000 - i) % 1000) = B ((q + 1000 - i) % 1000)) → la_back p T c tn ac A B n q a s f → la_back p T c tn ac A' B' n q a s f := by
  intro n
  induction n with
  | zero => intros; trivial
  | succ n ih =>
    intro q a s f hn hq hh g
    obtain ⟨u, g1, g2, g3, g4, g5⟩ := g
    have e := hh 1 (Nat.le_refl 1) (by omega)
    have e1 : q + 1000 - 1 = q + 999 := by omega
    rw [e1] at e
    refine ⟨u, g1, g2, e.1.trans g3, e.2.trans g4, ih (by omega) (Nat.mod_lt _ (by decide)) (fun i h1 h2 => ?_) g5⟩
    have e2 : ((q + 999) % 1000 + 1000 - i) % 1000 = (q + 1000 - (i + 1)) % 1000 := by omega
    rw [e2]
    exact hh (i + 1) (by omega) (by omega)
theorem la_lt (hp : 0 < p) (x : Nat) : x % p < p := Nat.mod_lt _ hp
end LA1
theorem la_c8 {p : Nat} (h0 : 0 < p) (h8 : p ≤ 8) : p = 1 ∨ p = 2 ∨ p = 3 ∨ p = 4 ∨ p = 5 ∨ p = 6 ∨ p = 7 ∨ p = 8 := by omega
theorem la_m1 {p s t : Nat} (h0 : 0 < p) (h8 : p ≤ 8) (hs : s < p) (ht : t < 8) : ((s + 8 * p - t) % p + t) % p = s := by
  rcases la_c8 h0 h8 with rfl | rfl | rfl | rfl | rfl | rfl | rfl | rfl <;> omega
theorem la_m2 {p s t : Nat} (h0 : 0 < p) (h8 : p ≤ 8) (hs : s < p) (ht : t < 8) : ((s + t) % p + 8 * p - t) % p = s := by
  rcases la_c8 h0 h8 with rfl | rfl | rfl | rfl | rfl | rfl | rfl | rfl <;> omega
theorem la_m5 {c x : Nat} (h0 : 0 < c) (h8 : c ≤ 8) (hx : x < c) : (x + c - 1) % c = (x + 8 * c - 1) % c := by
  rcases la_c8 h0 h8 with rfl | rfl | rfl | rfl | rfl | rfl | rfl | rfl <;> omega
section LA2
variable {p T c : Nat} {tn : Nat → Nat} {X : ij_R} {d d2 : Nat} {b : Bool} {I I2 : Nat → Nat → Int32} {J J2 : Nat → Nat → Int64} {a s n m q : Nat} {f : Nat → Nat}
/-- where a step leads -/
abbrev la_l (p : Nat) (tn : Nat → Nat) (s : Nat) (f : Nat → Nat) (a : Nat) : Nat := (s + tn (f a)) % p
theorem lx_step_look (hb : la_base p T c tn I I2) (hn : la_now p T c tn I I2 a s n m q f) {v : Option Value} {τ : ij_S}
    (hg : xk_go (ik_cr xk_P xk_M xk_Y xk_K X (d + 2)) 7 (54, [some (.ref 40), some (.int (nI (f a))), some (.int (nI (la_l p tn s f a))), none], [.int (I 9 (8 * a + la_l p tn s f a))], (xk_R b, I, J)) v τ) : xk_go (ik_cr xk_P xk_M xk_Y xk_K X (d + 2)) 7 (0, [some (.ref 40), none, none, none], [], (xk_R b, I, J)) v τ := by
  obtain ⟨b1, b2, b3, b4, b5, ⟨b6, b7⟩, b8, ⟨b9, b10⟩, b11, b12, b13, b14⟩ := hb
  obtain ⟨⟨n1, n2, n3, n4⟩, -, ⟨m1, m2, m3, m4⟩, m5, -, -⟩ := hn
  have hfa := m5 a m1
  have ht := b11 (f a) hfa.2.2
  have e1 := lx_paint (X := X) (d := d + 1) (b := b) (I := I) (J := J) (a := a) (by omega)
  rw [hfa.1] at e1
  have e2 := lx_turnOf (X := X) (d := d + 1) (b := b) (I := I) (J := J) (k := f a) (by omega)
  rw [ht.1] at e2
  have e3 := lx_modulo (X := X) (d := d) (b := b) (I := I) (J := J) (nI s + nI (tn (f a))) (nI p)
  rw [lf_fm_add (by omega) (by omega) b6 b7] at e3
  have e4 := lx_beyond (X := X) (d := d + 1) (b := b) (I := I) (J := J) b7 b8 b1 b3 m1 (la_lt b6 (s + tn (f a)))
  have g1 := xp_X0_stepAhead_0_0 (C := ik_cr xk_P xk_M xk_Y xk_K X (d + 2)) (v := v) (τ := τ) (b := b) I J (nI (f a)) (I' := I) (J' := J) (b' := b)
  rw [n1] at g1
  refine g1 e1 ?_
  have g2 := xp_X0_stepAhead_14_0 (C := ik_cr xk_P xk_M xk_Y xk_K X (d + 2)) (v := v) (τ := τ) (b := b) I J (nI (f a)) (nI (tn (f a))) (I' := I) (J' := J) (b' := b) e2
  rw [n2] at g2
  refine g2 ?_
  have g3 := xp_X0_stepAhead_27_0 (C := ik_cr xk_P xk_M xk_Y xk_K X (d + 2)) (v := v) (τ := τ) (b := b) I J (nI (f a)) (nI s) (nI (tn (f a))) (nI (la_l p tn s f a)) (I' := I) (J' := J) (b' := b)
  rw [b1] at g3
  refine g3 e3 ?_
  have g4 := xp_X0_stepAhead_38_0 (C := ik_cr xk_P xk_M xk_Y xk_K X (d + 2)) (v := v) (τ := τ) (b := b) I J (nI (f a)) (nI (la_l p tn s f a)) (I 9 (8 * a + la_l p tn s f a)) (I' := I) (J' := J) (b' := b)
  rw [n1] at g4
  exact g4 e4 hg
/-- the class goes no step -/
theorem lx_step_n (hb : la_base p T c tn I I2) (hn : la_now p T c tn I I2 a s n m q f) (h : I 9 (8 * a + la_l p tn s f a) = -1) : lk_cx1 X (d + 3) 7 [.ref 40] (xk_R b, I, J) (some (.int 0)) (xk_R b, I, J) :=
  ik_cr_of (Nat.le_of_ble_eq_true rfl) (lx_step_look hb hn (xp_X0_stepAhead_54_1 I J _ _ _ h))
/-- the class's tables behind a step -/
abbrev la_I (I : Nat → Nat → Int32) (a x v l : Nat) : Nat → Nat → Int32 := ij_u (ij_u (ij_u I 43 a (nI x)) 42 1 (nI v)) 42 2 (nI l)
theorem lx_step_y (hb : la_base p T c tn I I2) (hn : la_now p T c tn I I2 a s n m q f) {v : Nat} (hv : v < T) (h : I 9 (8 * a + la_l p tn s f a) = nI v) : lk_cx1 X (d + 3) 7 [.ref 40] (xk_R b, I, J) (some (.int 1)) (xk_R b, la_I I a ((f a + 1) % c) v (la_l p tn s f a), J) := by
  refine ik_cr_of (Nat.le_of_ble_eq_true rfl) (lx_step_look hb hn ?_)
  obtain ⟨b1, b2, b3, b4, b5, ⟨b6, b7⟩, b8, ⟨b9, b10⟩, b11, b12, b13, b14⟩ := hb
  obtain ⟨⟨n1, n2, n3, n4⟩, -, ⟨m1, m2, m3, m4⟩, m5, -, -⟩ := hn
  have hfa := (m5 a m1).2.2
  have e3 := lx_modulo (X := X) (d := d) (b := b) (I := I) (J := J) (nI (f a) + nI 1) (nI c)
  rw [lf_fm_add (by omega) (by omega) b9 b10] at e3
  have e4 := lx_setPaint (X := X) (d := d + 1) (b := b) (I := I) (J := J) (a := a) (by omega) (nI ((f a + 1) % c))
  rw [h]
  have g1 := xp_X0_stepAhead_54_0 (C := ik_cr xk_P xk_M xk_Y xk_K X (d + 2)) (v := some (.int 1)) (τ := (xk_R b, la_I I a ((f a + 1) % c) v (la_l p tn s f a), J)) (b := b) I J (nI (f a)) (nI (la_l p tn s f a)) (nI v) (nI ((f a + 1) % c)) (I' := I) (J' := J) (b' := b) (nI_ne_m1 (by omega))
  rw [b4, n1] at g1
  exact g1 e3 (xp_X0_stepAhead_83_0 I J _ _ (nI a) (nI ((f a + 1) % c)) e4 (xp_X0_stepAhead_86_0 _ J (nI (la_l p tn s f a)) (nI v)))
end LA2
/-- the reference's tables behind a step -/
abbrev la_I2 (K : Nat → Nat → Int32) (a s q n x v l : Nat) : Nat → Nat → Int32 := ij_u (ij_u (ij_u (ij_u (ij_u (ij_u (ij_u K 36 q (nI a)) 37 q (nI s)) 0 63 (nI ((q + 1) % 1000))) 0 61 (nI n)) 35 a (nI x)) 0 59 (nI v)) 0 60 (nI l)
section LA3
variable {p T c d : Nat} {tn : Nat → Nat} {K : Nat → Nat → Int32} {J2 : Nat → Nat → Int64} {a s n q x t v : Nat}
theorem la_1000 : (1000 : Int32) = nI 1000 := rfl
/-- the reference goes a step; x: the tile's colour, t: its turn -/
theorem rs_goes_y (h59 : K 0 59 = nI a) (h60 : K 0 60 = nI s) (h61 : K 0 61 = nI n) (h63 : K 0 63 = nI q) (h1 : K 0 1 = nI p) (h2 : K 0 2 = nI c) (h35 : K 35 a = nI x) (ht : K 2 x = nI t) (h7 : K 7 (8 * a + (s + t) % p) = nI v) (ha : a < 2000) (hs : s < 8) (hn : n ≤ 1000) (hq : q < 1000) (hp : 0 < p ∧ p ≤ 8) (hc : 0 < c ∧ c ≤ 8) (hx : x < 8) (htt : t < 8) (hv : v < 2000) : rk_call (d + 1) 68 [.ref 0] (rk_R, K, J2) (some (.int 1)) (rk_R, la_I2 K a s q (if n = 1000 then 1000 else n + 1) ((x + 1) % c) v ((s + t) % p), J2) := by
  have hl : (s + t) % p < p := Nat.mod_lt _ hp.1
  have ca : (nI a).toNatClampNeg = a := nI_clamp (by omega)
  have cx : (nI x).toNatClampNeg = x := nI_clamp (by omega)
  have cq : (nI q).toNatClampNeg = q := nI_clamp (by omega)
  have cl : (nI (8 * a + (s + t) % p)).toNatClampNeg = 8 * a + (s + t) % p := nI_clamp (by omega)
  have r1 : nI (s + t) - nI (s + t) / nI p * nI p = nI ((s + t) % p) := pk_rem (by omega) hp.1 (by omega)
  have r2 : nI (x + 1) - nI (x + 1) / nI c * nI c = nI ((x + 1) % c) := pk_rem (by omega) hc.1 (by omega)
  have r3 : nI (q + 1) - nI (q + 1) / nI 1000 * nI 1000 = nI ((q + 1) % 1000) := pk_rem (by omega) (by decide) (by decide)
  refine ij_cr_of (Nat.le_of_ble_eq_true rfl) ?_
  by_cases h : n = 1000
  · subst h
    rw [if_pos rfl]
    have g := rp_goes_0_1 (C := rk_call d) K J2
    simp only [h59, ca, h35, cx, ht, h60, nI_add, h1, r1, lr_8', cl, h7, h63, cq, nI_1, h61, h2, r2, la_1000, r3] at g
    exact g (vp_in_nI ha (by decide)) (vp_in_nI hx (by decide)) (nI_ne0 hp.1 (by omega)) (vp_in_nI (by omega) (by decide)) (nI_ne_m1 (by omega)) (vp_in_nI hq (by decide)) (vp_in_nI hq (by decide)) (by decide) trivial (nI_ne0 hc.1 (by omega)) (vp_in_nI ha (by decide))
  · rw [if_neg h]
    have g := rp_goes_0_0 (C := rk_call d) K J2
    simp only [h59, ca, h35, cx, ht, h60, nI_add, h1, r1, lr_8', cl, h7, h63, cq, nI_1, h61, h2, r2, la_1000, r3] at g
    exact g (vp_in_nI ha (by decide)) (vp_in_nI hx (by decide)) (nI_ne0 hp.1 (by omega)) (vp_in_nI (by omega) (by decide)) (nI_ne_m1 (by omega)) (vp_in_nI hq (by decide)) (vp_in_nI hq (by decide)) (by decide) (fun e => h ((nI_eq (by omega) (by omega)).mp e)) (nI_ne0 hc.1 (by omega)) (vp_in_nI ha (by decide))
theorem rs_goes_n (h59 : K 0 59 = nI a) (h60 : K 0 60 = nI s) (h1 : K 0 1 = nI p) (h35 : K 35 a = nI x) (ht : K 2 x = nI t) (h7 : K 7 (8 * a + (s + t) % p) = -1) (ha : a < 2000) (hs : s < 8) (hp : 0 < p ∧ p ≤ 8) (hx : x < 8) (htt : t < 8) : rk_call (d + 1) 68 [.ref 0] (rk_R, K, J2) (some (.int 0)) (rk_R, K, J2) := by
  have hl : (s + t) % p < p := Nat.mod_lt _ hp.1
  have ca : (nI a).toNatClampNeg = a := nI_clamp (by omega)
  have cx : (nI x).toNatClampNeg = x := nI_clamp (by omega)
  have cl : (nI (8 * a + (s + t) % p)).toNatClampNeg = 8 * a + (s + t) % p := nI_clamp (by omega)
  have r1 : nI (s + t) - nI (s + t) / nI p * nI p = nI ((s + t) % p) := pk_rem (by omega) hp.1 (by omega)
  refine ij_cr_of (Nat.le_of_ble_eq_true rfl) ?_
  have g := rp_goes_0_2 (C := rk_call d) K J2
  simp only [h59, ca, h35, cx, ht, h60, nI_add, h1, r1, lr_8', cl] at g
  exact g (vp_in_nI ha (by decide)) (vp_in_nI hx (by decide)) (nI_ne0 hp.1 (by omega)) (vp_in_nI (by omega) (by decide)) h7
end LA3
/-- what a step leaves of the tie; K: the reference's tables before it, but for what isn't looked at -/
theorem la_step_tie {p T c : Nat} {tn : Nat → Nat} {I I2 : Nat → Nat → Int32} {a s n m q v : Nat} {f : Nat → Nat} {I' K' : Nat → Nat → Int32} (hb : la_base p T c tn I I2) (hn : la_now p T c tn I I2 a s n m q f) (hv : v < T) (h : I 9 (8 * a + la_l p tn s f a) = nI v)
    (n' m' : Nat) (hnm : n' + m' ≤ 1000) (hn' : n' ≤ n + 1) (hm : la_ahead p T c tn (I 9) m' v (la_l p tn s f a) (la_up f a ((f a + 1) % c)))
    (e9 : I' 9 = I 9) (i1 : I' 42 1 = nI v) (i2 : I' 42 2 = nI (la_l p tn s f a)) (i3 : I' 42 3 = nI n') (i4 : I' 42 4 = nI m') (i5 : I' 43 = ij_u I 43 a (nI ((f a + 1) % c)) 43)
    (k1 : K' 0 59 = nI v) (k2 : K' 0 60 = nI (la_l p tn s f a)) (k3 : K' 0 61 = nI n') (k4 : K' 0 62 = nI m') (k5 : K' 0 63 = nI ((q + 1) % 1000)) (k6 : K' 35 = ij_u I2 35 a (nI ((f a + 1) % c)) 35) (k7 : K' 36 = ij_u I2 36 q (nI a) 36) (k8 : K' 37 = ij_u I2 37 q (nI s) 37) : la_now p T c tn I' K' v (la_l p tn s f a) n' m' ((q + 1) % 1000) (la_up f a ((f a + 1) % c)) := by
  obtain ⟨b1, b2, b3, b4, b5, ⟨b6, b7⟩, b8, ⟨b9, b10⟩, b11, b12, b13, b14⟩ := hb
  obtain ⟨-, -, ⟨m1, m2, m3, m4⟩, m5, m6, -⟩ := hn
  have hfa := (m5 a m1).2.2
  have hta := (b11 (f a) hfa).2.2
  have hl : la_l p tn s f a < p := la_lt b6 _
  refine ⟨⟨i1, i2, i3, i4⟩, ⟨k1, k2, k3, k4, k5⟩, ⟨hv, hl, hnm, Nat.mod_lt _ (by decide)⟩, ?_, ?_, ?_⟩
  · intro k hk
    rw [i5, k6]
    by_cases e : k = a
    · subst e
      rw [ij_u_same, ij_u_same, la_up_same]
      exact ⟨rfl, rfl, la_lt b9 _⟩
    · rw [ij_u_other _ _ _ _ e, ij_u_other _ _ _ _ e, la_up_ne e]
      exact m5 k hk
  · rw [e9]
    have hback : la_back p T c tn (I 9) (I2 36) (I2 37) (n' - 1) q a s f := la_back_le _ (by omega) m6
    cases n' with
    | zero => trivial
    | succ n' =>
      have eq : ((q + 1) % 1000 + 999) % 1000 = q := by omega
      have ef : ((la_up f a ((f a + 1) % c)) a + 8 * c - 1) % c = f a := by
        rw [la_up_same]
        exact la_m2 b9 b10 hfa (by decide)
      have es : (la_l p tn s f a + 8 * p - tn (f a)) % p = s := la_m2 b6 b7 m2 hta
      have eu : la_up (la_up f a ((f a + 1) % c)) a (f a) = f := funext (fun k => by
        by_cases e : k = a
        · rw [e, la_up_same]
        · rw [la_up_ne e, la_up_ne e])
      refine ⟨a, m1, b14 a (la_l p tn s f a) v m1 hl hv h, ?_, ?_, ?_⟩
      · rw [eq, k7, ij_u_same]
      · rw [eq, k8, ij_u_same, ef, es]
      · rw [eq, ef, es, eu]
        refine la_back_congr (by omega) m4 (fun i h1 h2 => ?_) hback
        rw [k7, k8]
        have hne : (q + 1000 - i) % 1000 ≠ q := by omega
        rw [ij_u_other _ _ _ _ hne, ij_u_other _ _ _ _ hne]
        exact ⟨rfl, rfl⟩
  · rw [e9]
    exact hm
