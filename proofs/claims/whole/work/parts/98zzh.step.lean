/-! ===== laying a board: one side of one tile, in the class ===== -/
/-- the class under way -/
def cr_t (p : Nat) (cs : Nat → Nat) (n : Nat) (ac : Nat → Nat → Nat) (rg : Nat → Nat) (I : Nat → Nat → Int32) (J : Nat → Nat → Int64) : Prop := pl_t p n ac rg I ∧ (∀ j, j < p → I 7 j = nI (cs j) ∧ cs j < 10) ∧ (∀ x y, x < n → p ≤ y → y < 8 → I 9 (8 * x + y) = -1) ∧ wy p n ac (J 12)
/-- what the class leaves as it was -/
def cr_fr (n : Nat) (I I' : Nat → Nat → Int32) (J J' : Nat → Nat → Int64) : Prop := (∀ q k, q ≠ 9 → q ≠ 10 → q ≠ 11 → ¬ (q = 6 ∧ k = 9) → I' q k = I q k) ∧ (∀ x, x < n → I' 11 x = I 11 x) ∧ ∀ q, q ≠ 12 → J' q = J q
section WY1
variable {p n t s : Nat} {ac : Nat → Nat → Nat} {rg : Nat → Nat} {cs : Nat → Nat} {w w' : Nat → Int64}
theorem wy_new (hp3 : 3 ≤ p) (h : wy p n ac w) (hc : pl_c p n ac) (hn : n < 2000) (ht : t < n) (hs : s < p) (ha : ¬ ac t s < 2000) (hf1 : pg_f ac n t (nb_f1 p cs ac rg n t s) ((s + 1) % p)) (hf2 : pg_f ac n t (nb_f2 p cs ac rg n t s) ((s + p - 1) % p)) (hw : ∀ x, x < n → w' x = w x) (hwn : w' n = w t + (if nb_f1 p cs ac rg n t s < 2000 then w (nb_f1 p cs ac rg n t s) else 0) + (if nb_f2 p cs ac rg n t s < 2000 then w (nb_f2 p cs ac rg n t s) else 0)) : wy p (n + 1) (nb_a4 p cs ac rg n t s) w' := by
  obtain ⟨o1, o2, o3, o4, o5⟩ := nb_sides hp3 hs
  refine ⟨(hw 0 (by omega)).trans h.1, fun x hx0 hx => ?_⟩
  by_cases e : x = n
  · subst e
    rw [hwn]
    generalize hA : w t = A
    generalize hB : (if nb_f1 p cs ac rg x t s < 2000 then w (nb_f1 p cs ac rg x t s) else 0) = B
    generalize hC : (if nb_f2 p cs ac rg x t s < 2000 then w (nb_f2 p cs ac rg x t s) else 0) = C
    have g3 : ws (wg (nb_a4 p cs ac rg x t s) w' x) p = ws (fun y => if y = (s + p - 1) % p then C else if y = (s + 1) % p then B else if y = s then A else 0) p := by
      refine ws_congr (fun y hy => ?_)
      have q := nb_a4_n (cs := cs) (rg := rg) (y := y) ht hf1 hf2 hn
      unfold wg
      by_cases c2 : y = (s + p - 1) % p
      · rw [if_pos c2]
        by_cases f2 : nb_f2 p cs ac rg x t s < 2000
        · obtain ⟨b1, b2, _⟩ := hf2 f2
          rw [if_pos ⟨f2, c2⟩] at q
          rw [q, if_pos b2, hw _ b2, ← hC, if_pos f2]
        · rw [if_neg (fun z => f2 z.1), if_neg (fun z => o3 (z.2.symm.trans c2)), if_neg (fun z => o2 (c2.symm.trans z))] at q
          rw [q, if_neg (by omega), ← hC, if_neg f2]
      · rw [if_neg c2]
        rw [if_neg (fun z => c2 z.2)] at q
        by_cases c1 : y = (s + 1) % p
        · rw [if_pos c1]
          by_cases f1 : nb_f1 p cs ac rg x t s < 2000
          · obtain ⟨b1, b2, _⟩ := hf1 f1
            rw [if_pos ⟨f1, c1⟩] at q
            rw [q, if_pos b2, hw _ b2, ← hB, if_pos f1]
          · rw [if_neg (fun z => f1 z.1), if_neg (fun z => o1 (c1.symm.trans z))] at q
            rw [q, if_neg (by omega), ← hB, if_neg f1]
        · rw [if_neg c1]
          rw [if_neg (fun z => c1 z.2)] at q
          by_cases c0 : y = s
          · rw [if_pos c0] at q
            rw [q, if_pos c0, if_pos ht, hw _ ht, hA]
          · rw [if_neg c0] at q
            rw [q, if_neg c0, if_neg (by omega)]
    rw [g3, ws_upd (g := fun y => if y = (s + 1) % p then B else if y = s then A else 0) o5 (fun k _ hk => if_neg hk) (by show (if _ then _ else _) = _; rw [if_neg (fun z => o3 z.symm), if_neg o2])]
    show A + B + C = _ + (if (s + p - 1) % p = (s + p - 1) % p then C else _)
    rw [if_pos rfl, ws_upd (g := fun y => if y = s then A else 0) o4 (fun k _ hk => if_neg hk) (by show (if _ then _ else _) = _; rw [if_neg o1])]
    show A + B + C = _ + (if (s + 1) % p = (s + 1) % p then B else _) + C
    rw [if_pos rfl, ws_upd (g := fun _ => 0) hs (fun k _ hk => if_neg hk) rfl, ws_0]
    show A + B + C = 0 + (if s = s then A else 0) + B + C
    rw [if_pos rfl, Int64.zero_add]
  · have hx' : x < n := by omega
    rw [hw x hx', h.2 x hx0 hx']
    refine ws_congr (fun y hy => ?_)
    unfold wg
    rw [nb_a4_x ht hn hx']
    by_cases c : (nb_f2 p cs ac rg n t s < 2000 ∧ x = nb_f2 p cs ac rg n t s ∧ y = (s + p - 1) % p) ∨ (nb_f1 p cs ac rg n t s < 2000 ∧ x = nb_f1 p cs ac rg n t s ∧ y = (s + 1) % p) ∨ (x = t ∧ y = s)
    · rw [if_pos c, if_neg (show ¬ n < x by omega)]
      have q : ¬ ac x y < 2000 := by
        rcases c with c | c | c
        · rw [c.2.1, c.2.2]; exact (hf2 c.1).2.2
        · rw [c.2.1, c.2.2]; exact (hf1 c.1).2.2
        · rw [c.1, c.2]; exact ha
      rw [if_neg (by omega)]
    · rw [if_neg c]
      by_cases l : ac x y < x
      · rw [if_pos l, if_pos l, hw _ (by omega)]
      · rw [if_neg l, if_neg l]
end WY1
theorem jn_J_ne {c f q : Nat} {J : Nat → Nat → Int64} (h : q ≠ 12) : jn_J c f J q = J q := by
  unfold jn_J
  by_cases e : f < 2000
  · rw [if_pos e, ij_u_ne h]
  · rw [if_neg e]
theorem jn_J_x {c f x : Nat} {J : Nat → Nat → Int64} (h : x ≠ c) : jn_J c f J 12 x = J 12 x := by
  unfold jn_J
  by_cases e : f < 2000
  · rw [if_pos e, ij_u_other _ _ _ _ h]
  · rw [if_neg e]
theorem jn_J_c {c f : Nat} {J : Nat → Nat → Int64} : jn_J c f J 12 c = J 12 c + (if f < 2000 then J 12 f else 0) := by
  unfold jn_J
  by_cases e : f < 2000
  · rw [if_pos e, if_pos e, ij_u_same]
  · rw [if_neg e, if_neg e, Int64.add_zero]
section CR1
variable {d p n t s : Nat} {b : Bool} {X : ij_R} {ac : Nat → Nat → Nat} {rg : Nat → Nat} {cs : Nat → Nat} {I : Nat → Nat → Int32} {J : Nat → Nat → Int64} {x2 : Int32}
theorem lx_ring33 (h : cr_t p cs n ac rg I J) (ht : t < n) (hs : s < p) {v : Option Value} {τ : ij_S} (hg : xk_go (ik_cr xk_P xk_M xk_Y xk_K X (d + 4)) 49 (26, [some (.ref 6), none, some (.int x2), some (.int (nI t)), some (.int (nI s))], [.int (pl_e (ac t s))], (xk_R b, I, J)) v τ) : xk_go (ik_cr xk_P xk_M xk_Y xk_K X (d + 4)) 49 (10, [some (.ref 6), none, some (.int x2), some (.int (nI t)), some (.int (nI s))], [], (xk_R b, I, J)) v τ := by
  obtain ⟨p8, n2, h8, h9, h5⟩ := h.1
  have c33 := lx_beyond (X := X) (d := d + 3) (b := b) (J := J) p8 n2 h8 h9 ht hs
  rw [((h5 t ht).2 s hs).1] at c33
  exact xp_X2_layRing_10_1 (b' := b) (I' := I) (J' := J) I J _ _ _ _ (by rw [h8]; exact nI_ge hs (by omega)) c33 hg
theorem lx_ring_old (h : cr_t p cs n ac rg I J) (ht : t < n) (hs : s < p) (ha : ac t s < 2000) {v : Option Value} {τ : ij_S} (hg : xk_go (ik_cr xk_P xk_M xk_Y xk_K X (d + 4)) 49 (10, [some (.ref 6), none, some (.int x2), some (.int (nI t)), some (.int (nI (s + 1)))], [], (xk_R b, I, J)) v τ) : xk_go (ik_cr xk_P xk_M xk_Y xk_K X (d + 4)) 49 (10, [some (.ref 6), none, some (.int x2), some (.int (nI t)), some (.int (nI s))], [], (xk_R b, I, J)) v τ := by
  rw [← nI_1] at hg
  exact lx_ring33 h ht hs (xp_X2_layRing_26_0 I J _ _ _ _ (fun z => (pl_e_m1.mp z) ha) hg)
theorem lx_ring_full (h : cr_t p cs 2000 ac rg I J) (ht : t < 2000) (hs : s < p) (ha : ¬ ac t s < 2000) : xk_go (ik_cr xk_P xk_M xk_Y xk_K X (d + 4)) 49 (10, [some (.ref 6), none, some (.int x2), some (.int (nI t)), some (.int (nI s))], [], (xk_R b, I, J)) (some (.int 0)) (xk_R b, I, J) :=
  lx_ring33 h ht hs (xp_X2_layRing_26_2 I J _ _ _ _ (pl_e_m1.mpr ha) (by rw [h.1.2.2.2.1]; decide))
theorem lx_ring_new (hp3 : 3 ≤ p) (h : cr_t p cs n ac rg I J) (hn : n < 2000) (ht : t < n) (hs : s < p) (ha : ¬ ac t s < 2000) (hg : rg t + 1 < 2000) (hf1 : pg_f ac n t (nb_f1 p cs ac rg n t s) ((s + 1) % p)) (hf2 : pg_f ac n t (nb_f2 p cs ac rg n t s) ((s + p - 1) % p)) : ∃ (I' : Nat → Nat → Int32) (J' : Nat → Nat → Int64), (∀ v τ, xk_go (ik_cr xk_P xk_M xk_Y xk_K X (d + 4)) 49 (10, [some (.ref 6), none, some (.int x2), some (.int (nI t)), some (.int (nI (s + 1)))], [], (xk_R b, I', J')) v τ → xk_go (ik_cr xk_P xk_M xk_Y xk_K X (d + 4)) 49 (10, [some (.ref 6), none, some (.int x2), some (.int (nI t)), some (.int (nI s))], [], (xk_R b, I, J)) v τ) ∧ cr_t p cs (n + 1) (nb_a4 p cs ac rg n t s) (nb_rg rg n t) I' J' ∧ I' 11 n = nI s ∧ cr_fr n I I' J J' := by
  obtain ⟨I', a1, a2, a3, a4, a5⟩ := lx_number (X := X) (d := d) (b := b) (J := J) h.1 hp3 hn h.2.1 ht hs hg
  have p8 := h.1.1
  refine ⟨I', jn_J n (nb_f2 p cs ac rg n t s) (jn_J n (nb_f1 p cs ac rg n t s) (jn_J n t (ij_u J 12 n 0))), fun v τ hgo => ?_, ⟨a2, fun j hj => ?_, fun x y hx hy hy8 => ?_, ?_⟩, a3, fun q k q9 q10 q11 q6 => ?_, fun x hx => ?_, fun q hq => ?_⟩
  · rw [← nI_1] at hgo
    exact lx_ring33 h ht hs (xp_X2_layRing_26_1 (b' := b) I J _ _ _ _ (pl_e_m1.mpr ha) (by rw [h.1.2.2.2.1]; exact nI_lt hn (by decide)) a1 (xp_X2_layRing_49_0 _ _ _ _ _ hgo))
  · rw [a4 7 j (by omega) (by omega) (by omega) (by omega)]
    exact h.2.1 j hj
  · rw [a5 x y hy hy8]
    by_cases e : x = n
    · rw [if_pos e]
    · rw [if_neg e]
      exact h.2.2.1 x y (by omega) hy hy8
  · refine wy_new hp3 h.2.2.2 (pl_t_c h.1) hn ht hs ha hf1 hf2 (fun x hx => ?_) ?_
    · rw [jn_J_x (by omega), jn_J_x (by omega), jn_J_x (by omega), ij_u_other _ _ _ _ (by omega)]
    · have k1 : (if nb_f1 p cs ac rg n t s < 2000 then jn_J n t (ij_u J 12 n 0) 12 (nb_f1 p cs ac rg n t s) else 0) = if nb_f1 p cs ac rg n t s < 2000 then J 12 (nb_f1 p cs ac rg n t s) else 0 := by
        by_cases f : nb_f1 p cs ac rg n t s < 2000
        · have := (hf1 f).2.1
          rw [if_pos f, if_pos f, jn_J_x (by omega), ij_u_other _ _ _ _ (by omega)]
        · rw [if_neg f, if_neg f]
      have k2 : (if nb_f2 p cs ac rg n t s < 2000 then jn_J n (nb_f1 p cs ac rg n t s) (jn_J n t (ij_u J 12 n 0)) 12 (nb_f2 p cs ac rg n t s) else 0) = if nb_f2 p cs ac rg n t s < 2000 then J 12 (nb_f2 p cs ac rg n t s) else 0 := by
        by_cases f : nb_f2 p cs ac rg n t s < 2000
        · have := (hf2 f).2.1
          rw [if_pos f, if_pos f, jn_J_x (by omega), jn_J_x (by omega), ij_u_other _ _ _ _ (by omega)]
        · rw [if_neg f, if_neg f]
      rw [jn_J_c, k2, jn_J_c, k1, jn_J_c, ij_u_same, if_pos (show t < 2000 by omega), ij_u_other _ _ _ _ (show t ≠ n by omega), Int64.zero_add]
  · exact a4 q k q9 q6 (fun z => q10 z.1) (fun z => q11 z.1)
  · exact a4 11 x (by omega) (by omega) (by omega) (by omega)
  · rw [jn_J_ne hq, jn_J_ne hq, jn_J_ne hq, ij_u_ne hq]
end CR1
