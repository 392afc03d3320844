/-! ===== R: how the class's tables and the reference's hang together ===== -/
def wr_S (p c T M : Nat) (cs tn rg : Nat → Nat) (ac : Nat → Nat → Nat) (I : Nat → Nat → Int32) (J : Nat → Nat → Int64) (I2 : Nat → Nat → Int32) (J2 : Nat → Nat → Int64) : Prop :=
  (3 ≤ p ∧ p ≤ 8 ∧ ∀ j, j < p → cs j < 10 ∧ cs j ≠ 1) ∧ pf_t p T M ac rg I J I2 J2 ∧ ((∀ j, j < 8 → I 7 j = if j < p then nI (cs j) else 0) ∧ ∀ j, j < 8 → I2 1 j = if j < p then nI (cs j) else 0) ∧ ((∀ j, j < p → I 8 j = I2 22 j) ∧ I 6 11 = I2 0 39) ∧ lr_grow p cs I J ∧ ((1 ≤ c ∧ c ≤ 8) ∧ I 40 5 = nI c ∧ I2 0 2 = nI c ∧ ∀ k, k < c → I 41 k = nI (tn k) ∧ I2 2 k = nI (tn k) ∧ tn k < 8)
/-- the ant as it stands, and as it was kept -/
def wr_N (p T c : Nat) (tn : Nat → Nat) (I I2 : Nat → Nat → Int32) : Prop := ∃ a s n m q f, la_now p T c tn I I2 a s n m q f
def wr_I (p T c : Nat) (tn : Nat → Nat) (I I2 : Nat → Nat → Int32) : Prop := I 40 4 = I2 0 67 ∧ (I 40 4 = 0 ∨ I 40 4 = 1 ∧ ∃ a s n m q f, la_st p T c tn (I 9) (I 44 1) (I 44 2) (I 44 3) (I 44 4) (I 45) (I2 38 0) (I2 38 1) (I2 38 2) (I2 38 3) (I2 38 4) (I2 39) (I2 40) (I2 41) a s n m q f)
def wr_O (I I2 : Nat → Nat → Int32) : Prop := I 0 7 = I2 0 8 ∧ I 0 8 = I2 4 0 ∧ I 0 9 = I2 4 1 ∧ I 0 10 = I2 4 2
def wr_K (I I2 : Nat → Nat → Int32) : Prop := ∃ k, k ≤ 200 ∧ lt_tie k I I2
def wr_R : lk_Rl := fun b I J I2 J2 => ∃ (p c T M : Nat) (cs tn rg : Nat → Nat) (ac : Nat → Nat → Nat), wr_S p c T M cs tn rg ac I J I2 J2 ∧ lw_tie p T rg b I J ∧ cb_sk p cs I ∧ wr_N p T c tn I I2 ∧ wr_I p T c tn I I2 ∧ wr_O I I2 ∧ wr_K I I2
section WR1
variable {p c T M : Nat} {cs tn rg : Nat → Nat} {ac : Nat → Nat → Nat} {b : Bool} {I I' : Nat → Nat → Int32} {J J' : Nat → Nat → Int64} {I2 I2' : Nat → Nat → Int32} {J2 J2' : Nat → Nat → Int64}
theorem wr_S_fr (h : wr_S p c T M cs tn rg ac I J I2 J2) (hI : ∀ q k, (q = 6 ∧ 8 ≤ k ∧ k ≤ 11) ∨ (7 ≤ q ∧ q ≤ 11) ∨ q = 13 ∨ (q = 15 ∧ k = 3) ∨ (q = 40 ∧ k = 5) ∨ q = 41 → I' q k = I q k) (h12 : J' 12 = J 12) (h16 : J' 16 = J 16) (hI2 : ∀ q k, (q = 0 ∧ (k = 1 ∨ k = 2 ∨ k = 21 ∨ k = 22 ∨ k = 39)) ∨ q = 1 ∨ q = 2 ∨ (7 ≤ q ∧ q ≤ 13) ∨ q = 22 → I2' q k = I2 q k) (h14 : J2' 14 = J2 14) : wr_S p c T M cs tn rg ac I' J' I2' J2' := by
  obtain ⟨a1, ⟨b1, ⟨b2, b3, b4, b5, b6, b7, b8⟩, b9, b10, b11, b12, b13⟩, ⟨c1, c2⟩, ⟨d1, d2⟩, ⟨K, e1, e2, e3⟩, f1, f2, f3, f4⟩ := h
  refine ⟨a1, ⟨b1, ⟨(hI 6 8 (by omega)).trans b2, (hI2 0 1 (by omega)).trans b3, (hI 6 9 (by omega)).trans b4, (hI2 0 21 (by omega)).trans b5, (hI 6 10 (by omega)).trans b6, (hI2 0 22 (by omega)).trans b7, fun k hk => ?_⟩, fun x hx => ?_, b10, b11, (hI2 10 0 (by omega)).trans b12, fun x h0 hx => ?_⟩, ⟨fun j hj => (hI 7 j (by omega)).trans (c1 j hj), fun j hj => (hI2 1 j (by omega)).trans (c2 j hj)⟩, ⟨fun j hj => ?_, ?_⟩, ⟨K, (hI 15 3 (by omega)).trans e1, e2, fun k hk => ?_⟩, f1, (hI 40 5 (by omega)).trans f2, (hI2 0 2 (by omega)).trans f3, fun k hk => ?_⟩
  · rw [hI 13 k (by omega), hI2 13 k (by omega)]; exact b8 k hk
  · obtain ⟨q1, q2, q3, q4, q5, q6, q7, q8⟩ := b9 x hx
    refine ⟨(hI 10 x (by omega)).trans q1, (hI2 8 x (by omega)).trans q2, q3, (hI2 9 x (by omega)).trans q4, ?_, fun y hy => ⟨(hI 9 _ (by omega)).trans (q6 y hy).1, (hI2 7 _ (by omega)).trans (q6 y hy).2⟩, fun y hy hy8 => ⟨(hI 9 _ (by omega)).trans (q7 y hy hy8).1, (hI2 7 _ (by omega)).trans (q7 y hy hy8).2⟩, q8⟩
    rw [h12, h14]; exact q5
  · obtain ⟨s, u, q1, q2, q3, q4, q5, q6, q7, q8⟩ := b13 x h0 hx
    refine ⟨s, u, q1, q2, (hI 11 x (by omega)).trans q3, (hI2 12 x (by omega)).trans q4, (hI2 11 x (by omega)).trans q5, q6, q7, ?_⟩
    rw [hI2 10 x (by omega), hI2 10 u (by omega), hI2 22 s (by omega)]; exact q8
  · rw [hI 8 j (by omega), hI2 22 j (by omega)]; exact d1 j hj
  · rw [hI 6 11 (by omega), hI2 0 39 (by omega)]; exact d2
  · rw [h16]; exact e3 k hk
  · rw [hI 41 k (by omega), hI2 2 k (by omega)]; exact f4 k hk
theorem lw_tie_fr (h : lw_tie p T rg b I J) (h3 : I' 19 3 = I 19 3) (h9 : I' 9 = I 9) (h20 : J' 20 = J 20) (h21 : J' 21 = J 21) : lw_tie p T rg b I' J' := by
  rcases h with h | ⟨k, h1, h2, h4, h5⟩
  · exact Or.inl (h3.trans h)
  · refine Or.inr ⟨k, h1, h3.trans h2, fun t ht => ?_, fun t ht hk => ?_⟩
    · rw [h9]
      cases b
      · show J' 20 t = _; rw [h20]; exact h4 t ht
      · show J' 21 t = _; rw [h21]; exact h4 t ht
    · cases b
      · show J' 21 t = _; rw [h21]; exact h5 t ht hk
      · show J' 20 t = _; rw [h20]; exact h5 t ht hk
theorem cb_sk_fr (h : cb_sk p cs I) (hI : ∀ q k, (23 ≤ q ∧ q ≤ 27) ∨ (36 ≤ q ∧ q ≤ 39) → I' q k = I q k) : cb_sk p cs I' := by
  obtain ⟨⟨z, z1, z2, z3⟩, h2⟩ := h
  refine ⟨⟨z, z1, (hI 23 4 (by omega)).trans z2, fun h1 => ?_⟩, fun z h1 h7 => ?_⟩
  · obtain ⟨⟨x1, x2, x3⟩, x4, x5⟩ := z3 h1
    exact ⟨⟨(hI 23 4 (by omega)).trans x1, (hI 23 5 (by omega)).trans x2, fun i hi x hx => (hI 24 _ (by omega)).trans (x3 i hi x hx)⟩, fun i hi => (hI 26 i (by omega)).trans (x4 i hi), fun i hi j hj => (hI 25 _ (by omega)).trans (x5 i hi j hj)⟩
  · rcases h2 z h1 h7 with h | h
    · exact Or.inl ((hI 36 z (by omega)).trans h)
    · exact Or.inr (cb_ans_fr (hI 37 z (by omega)) (fun w _ => hI 38 _ (by omega)) (fun s t _ _ => hI 39 _ (by omega)) h)
theorem la_st_congr {w1 w2 w3 w4 z0 z1 z2 z3 z4 w1' w2' w3' w4' z0' z1' z2' z3' z4' : Int32} {A pt pt2 B C pt' pt2' B' C' : Nat → Int32} {a s n m q : Nat} {f : Nat → Nat} (hT : T ≤ 2000) (e1 : w1' = w1) (e2 : w2' = w2) (e3 : w3' = w3) (e4 : w4' = w4) (g0 : z0' = z0) (g1 : z1' = z1) (g2 : z2' = z2) (g3 : z3' = z3) (g4 : z4' = z4) (hp : ∀ k, k < 2000 → pt' k = pt k) (hp2 : ∀ k, k < 2000 → pt2' k = pt2 k) (hB : ∀ k, k < 1000 → B' k = B k) (hC : ∀ k, k < 1000 → C' k = C k) (h : la_st p T c tn A w1 w2 w3 w4 pt z0 z1 z2 z3 z4 pt2 B C a s n m q f) : la_st p T c tn A w1' w2' w3' w4' pt' z0' z1' z2' z3' z4' pt2' B' C' a s n m q f := by
  subst e1; subst e2; subst e3; subst e4; subst g0; subst g1; subst g2; subst g3; subst g4
  obtain ⟨h1, h2, h3, h4, h5, h6⟩ := h
  refine ⟨h1, h2, h3, fun k hk => ?_, la_back_congr (by omega) (by omega) (fun i _ _ => ?_) h5, h6⟩
  · rw [hp k (by omega), hp2 k (by omega)]; exact h4 k hk
  · have := Nat.mod_lt (q + 1000 - i) (show 0 < 1000 by decide)
    exact ⟨hB _ this, hC _ this⟩
theorem wr_N_fr (h : wr_N p T c tn I I2) (h9 : I' 9 = I 9) (hI : ∀ q k, (q = 42 ∧ 1 ≤ k ∧ k ≤ 4) ∨ q = 43 → I' q k = I q k) (hI2 : ∀ q k, (q = 0 ∧ 59 ≤ k ∧ k ≤ 63) ∨ (35 ≤ q ∧ q ≤ 37) → I2' q k = I2 q k) : wr_N p T c tn I' I2' := by
  obtain ⟨a, s, n, m, q, f, h⟩ := h
  refine ⟨a, s, n, m, q, f, ?_⟩
  show la_st _ _ _ _ _ _ _ _ _ _ _ _ _ _ _ _ _ _ _ _ _ _ _ _
  rw [h9, hI 42 1 (by omega), hI 42 2 (by omega), hI 42 3 (by omega), hI 42 4 (by omega), hI2 0 59 (by omega), hI2 0 60 (by omega), hI2 0 61 (by omega), hI2 0 62 (by omega), hI2 0 63 (by omega), funext (fun k => hI 43 k (by omega)), funext (fun k => hI2 35 k (by omega)), funext (fun k => hI2 36 k (by omega)), funext (fun k => hI2 37 k (by omega))]
  exact h
theorem wr_I_fr (h : wr_I p T c tn I I2) (h9 : I' 9 = I 9) (hI : ∀ q k, (q = 40 ∧ k = 4) ∨ q = 44 ∨ q = 45 → I' q k = I q k) (hI2 : ∀ q k, (q = 0 ∧ k = 67) ∨ (38 ≤ q ∧ q ≤ 41) → I2' q k = I2 q k) : wr_I p T c tn I' I2' := by
  obtain ⟨h1, h2⟩ := h
  unfold wr_I
  rw [hI 40 4 (by omega), hI2 0 67 (by omega), h9, hI 44 1 (by omega), hI 44 2 (by omega), hI 44 3 (by omega), hI 44 4 (by omega), funext (fun k => hI 45 k (by omega)), hI2 38 0 (by omega), hI2 38 1 (by omega), hI2 38 2 (by omega), hI2 38 3 (by omega), hI2 38 4 (by omega), funext (fun k => hI2 39 k (by omega)), funext (fun k => hI2 40 k (by omega)), funext (fun k => hI2 41 k (by omega))]
  exact ⟨h1, h2⟩
theorem wr_O_fr (h : wr_O I I2) (hI : ∀ k, 7 ≤ k → k ≤ 10 → I' 0 k = I 0 k) (hI2 : ∀ q k, (q = 0 ∧ k = 8) ∨ (q = 4 ∧ k ≤ 2) → I2' q k = I2 q k) : wr_O I' I2' := by
  unfold wr_O
  rw [hI 7 (by omega) (by omega), hI 8 (by omega) (by omega), hI 9 (by omega) (by omega), hI 10 (by omega) (by omega), hI2 0 8 (by omega), hI2 4 0 (by omega), hI2 4 1 (by omega), hI2 4 2 (by omega)]
  exact h
theorem wr_K_fr (h : wr_K I I2) (hI : ∀ q k, (q = 1 ∧ k = 1) ∨ q = 2 → I' q k = I q k) (hI2 : ∀ q k, (q = 0 ∧ k = 6) ∨ q = 3 → I2' q k = I2 q k) : wr_K I' I2' := by
  obtain ⟨k, h1, h2, h3, h4⟩ := h
  refine ⟨k, h1, (hI 1 1 (by omega)).trans h2, (hI2 0 6 (by omega)).trans h3, fun j hj => ?_⟩
  rw [hI 2 j (by omega), hI2 3 j (by omega)]; exact h4 j hj
end WR1
