/-! ===== closed boards: both make them known ===== -/
theorem cb_lv_len {n p : Nat} {cs : Nat → Nat} : ∀ (r : Nat) (a : List Nat), (cb_lv n p cs (r + 1) a).length ≤ cb_try n p cs (r + 1) a := by
  intro r
  induction r with
  | zero =>
    intro a
    show ((List.range (cb_q n)).flatMap _).length ≤ ((List.range (cb_q n)).map _).sum
    rw [List.length_flatMap]
    generalize List.range (cb_q n) = m
    induction m with
    | nil => exact Nat.le_refl _
    | cons j m ih =>
      rw [List.map_cons, List.map_cons, List.sum_cons, List.sum_cons]
      refine Nat.add_le_add ?_ ih
      by_cases e : cb_st n p cs a j = true
      · rw [if_pos e, if_pos e]; exact Nat.le_refl 1
      · rw [if_neg e, if_neg e]; exact Nat.zero_le _
  | succ r ih0 =>
    intro a
    show ((List.range (cb_q n)).flatMap _).length ≤ ((List.range (cb_q n)).map _).sum
    rw [List.length_flatMap]
    generalize List.range (cb_q n) = m
    induction m with
    | nil => exact Nat.le_refl _
    | cons j m ih =>
      rw [List.map_cons, List.map_cons, List.sum_cons, List.sum_cons]
      refine Nat.add_le_add ?_ ih
      by_cases e : cb_st n p cs a j = true
      · rw [if_pos e, if_pos e]
        have := ih0 (a ++ [j])
        omega
      · rw [if_neg e, if_neg e]; exact Nat.zero_le _
/-- what is known of boards of n tiles -/
def cb_ans (n p : Nat) (cs : Nat → Nat) (I : Nat → Nat → Int32) : Prop :=
  (cb_T2 n cs p ≤ 300000 → I 38 (5 * n + 0) = nI ((cb_lv n p cs p []).countP (cb_k1 n p)) ∧ I 38 (5 * n + 1) = nI ((cb_lv n p cs p []).countP (cb_k2 n p cs)) ∧ I 38 (5 * n + 2) = nI ((cb_lv n p cs p []).countP (cb_k3 n p)) ∧ I 38 (5 * n + 4) = nI (cb_T2 n cs p) ∧ cb_fi n p cs ((cb_lv n p cs p []).find? (cb_k2 n p cs)) I) ∧
  (300000 < cb_T2 n cs p → (∀ w, w < 5 → I 38 (5 * n + w) = -2) ∧ I 37 n = 0)
/-- the seeker: rows as they are listed, and all that is known -/
def cb_sk (p : Nat) (cs : Nat → Nat) (I : Nat → Nat → Int32) : Prop := cb_xc I ∧ ∀ z, 1 ≤ z → z < 7 → (I 36 z = 0 ∨ cb_ans z p cs I)
def cb_fK (I I' : Nat → Nat → Int32) : Prop := ∀ q k, ¬ (24 ≤ q ∧ q ≤ 27) → ¬ (29 ≤ q ∧ q ≤ 33) → ¬ (36 ≤ q ∧ q ≤ 39) → ¬ (q = 23 ∧ (k = 4 ∨ k = 5)) → ¬ (q = 28 ∧ k = 7) → ¬ (q = 22 ∧ 9 ≤ k ∧ k ≤ 11) → I' q k = I q k
section CM1
variable {d n p : Nat} {b : Bool} {cs : Nat → Nat}
theorem cb_ans_fr {z : Nat} {I I' : Nat → Nat → Int32} (h7 : I' 37 z = I 37 z) (h8 : ∀ w, w < 5 → I' 38 (5 * z + w) = I 38 (5 * z + w)) (h9 : ∀ s t, s < p → t < z → I' 39 ((8 * z + s) * 6 + t) = I 39 ((8 * z + s) * 6 + t)) (h : cb_ans z p cs I) : cb_ans z p cs I' := by
  refine ⟨fun q => ?_, fun q => ?_⟩
  · obtain ⟨a1, a2, a3, a4, a5⟩ := h.1 q
    refine ⟨(h8 0 (by decide)).trans a1, (h8 1 (by decide)).trans a2, (h8 2 (by decide)).trans a3, (h8 4 (by decide)).trans a4, ?_⟩
    revert a5
    cases (cb_lv z p cs p []).find? (cb_k2 z p cs) with
    | none => exact fun a5 => ⟨h7.trans a5.1, (h8 3 (by decide)).trans a5.2⟩
    | some a => exact fun a5 => ⟨h7.trans a5.1, (h8 3 (by decide)).trans a5.2.1, fun s t hs ht => (h9 s t hs ht).trans (a5.2.2 s t hs ht)⟩
  · obtain ⟨a1, a2⟩ := h.2 q
    exact ⟨fun w hw => (h8 w hw).trans (a1 w hw), h7.trans a2⟩
theorem lx_spent {X : ij_R} {J : Nat → Nat → Int64} (hn : n < 7) : ∀ (r w : Nat) (I : Nat → Nat → Int32), w + r = 5 → ∃ I', xk_go (ik_cr xk_P xk_M xk_Y xk_K X (d + 1)) 83 (76, [some (.ref 22), some (.int (nI n)), none, some (.int (nI w))], [], (xk_R b, I, J)) none (xk_R b, I', J) ∧ (∀ u, w ≤ u → u < 5 → I' 38 (5 * n + u) = -2) ∧ (∀ y, (y < 5 * n + w ∨ 5 * n + 5 ≤ y) → I' 38 y = I 38 y) ∧ ∀ q, q ≠ 38 → I' q = I q := by
  intro r
  induction r with
  | zero =>
    intro w I hw
    have : w = 5 := by omega
    subst this
    exact ⟨I, xp_X5_makeKnown_76_0 I J _ _ (by decide), fun u h1 h2 => by omega, fun _ _ => rfl, fun _ _ => rfl⟩
  | succ r ih =>
    intro w I hw
    obtain ⟨I', z1, z2, z3, z4⟩ := ih (w + 1) (ij_u I 38 (5 * n + w) (-2)) (by omega)
    refine ⟨I', ?_, fun u h1 h2 => ?_, fun y hy => ?_, fun q hq => (z4 q hq).trans (ij_u_ne hq)⟩
    · rw [← nI_1] at z1
      exact xp_X5_makeKnown_76_1 I J _ _ (nI_ge (b := 5) (by omega) (by decide)) (lx_setAnswer (d := d) hn (by omega)) (xp_X5_makeKnown_89_0 _ J _ _ z1)
    · by_cases e : u = w
      · subst e
        rw [z3 _ (by omega), ij_u_same]
      · exact z2 u (by omega) h2
    · rw [z3 y (by omega), ij_u_other _ _ _ _ (by omega)]
theorem lx_makeKnown {I : Nat → Nat → Int32} (hn1 : 1 ≤ n) (hn : n < 7) (hp3 : 3 ≤ p) (hp : p ≤ 8) (hcs : ∀ j, j < p → cs j < 10 ∧ cs j ≠ 1) (h8 : I 6 8 = nI p) (h7 : ∀ j, j < p → I 7 j = nI (cs j)) (hs : cb_sk p cs I) (J : Nat → Nat → Int64) : ∃ (I' : Nat → Nat → Int32) (J' : Nat → Nat → Int64), lk_cx1 xw_X (d + 17) 83 [.ref 22, .int (nI n)] (xk_R b, I, J) none (xk_R b, I', J') ∧ cb_sk p cs I' ∧ cb_ans n p cs I' ∧ cb_fK I I' ∧ ∀ q, q ≠ 34 → q ≠ 35 → J' q = J q := by
  have cl : (nI n).toNatClampNeg = n := nI_clamp (by omega)
  have c1 : ¬ nI n < 1 := nI_nlt (b := 1) hn1 (by omega)
  have c7 : ¬ (7 : Int32) ≤ nI n := nI_ge (b := 7) hn (by decide)
  have v7 : vp_in (nI n) 7 := vp_in_nI hn (by decide)
  by_cases known : I 36 n = 0
  · obtain ⟨I1, l1, l2, l3⟩ := lx_list (X := xw_X) (d := d + 7) (b := b) (J := J) hn1 hn (ij_u (ij_u I 36 n (vp_nar .boolean 1)) 37 n (vp_nar .boolean 0)) hs.1
    obtain ⟨I2, g1, g2, g3, g4⟩ := lx_beginD (X := xw_X) (d := d + 14) (b := b) (J := J) hn I1
    have e2 : ∀ q k, q ≠ 24 → q ≠ 25 → q ≠ 26 → q ≠ 27 → q ≠ 30 → ¬ (q = 23 ∧ (k = 4 ∨ k = 5)) → ¬ (q = 28 ∧ k = 7) → I2 q k = ij_u (ij_u I 36 n (vp_nar .boolean 1)) 37 n (vp_nar .boolean 0) q k := fun q k a1 a2 a3 a4 a5 a6 a7 => (g4 q k a5 a7).trans (l3 q k a1 a2 a3 a4 a6)
    have xl2 : cb_xl n I2 := by
      refine ⟨⟨(g4 23 4 (by decide) (by omega)).trans l2.1.1, (g4 23 5 (by decide) (by omega)).trans l2.1.2.1, fun i hi x hx => (g4 24 _ (by decide) (by omega)).trans (l2.1.2.2 i hi x hx)⟩, fun i hi => (g4 26 _ (by decide) (by omega)).trans (l2.2.1 i hi), fun i hi j hj => (g4 25 _ (by decide) (by omega)).trans (l2.2.2 i hi j hj)⟩
    have xx2 : cb_xx n p cs I2 := ⟨xl2, (e2 6 8 (by decide) (by decide) (by decide) (by decide) (by decide) (by omega) (by omega)).trans h8, fun j hj => (e2 7 j (by decide) (by decide) (by decide) (by decide) (by decide) (by omega) (by omega)).trans (h7 j hj)⟩
    obtain ⟨J1, t1, t2⟩ := lx_reckonT (d := d + 13) (b := b) hn1 hn hp3 hp hcs xx2 J
    have start : ∀ v τ, xk_go (ik_cr xk_P xk_M xk_Y xk_K xw_X (d + 16)) 83 (67, [some (.ref 22), some (.int (nI n)), none, none], [.int (nI (if cb_T2 n cs p ≤ 300000 then cb_T2 n cs p else 300001))], (xk_R b, I2, J1)) v τ → lk_cx1 xw_X (d + 17) 83 [.ref 22, .int (nI n)] (xk_R b, I, J) v τ := fun v τ hg => by
      have q := xp_X5_makeKnown_0_3 (C := ik_cr xk_P xk_M xk_Y xk_K xw_X (d + 16)) (v := v) (τ := τ) (b := b) (b' := b) (I' := I1) (J' := J) I J (nI n) c1 (by decide) c7 (by decide) c7 v7
      rw [cl] at q
      exact ik_cr_of (Nat.le_of_ble_eq_true rfl) (q known v7 v7 l1 (xp_X5_makeKnown_55_0 I1 J _ g1 (xp_X5_makeKnown_63_0 I2 J _ _ t1 hg)))
    -- what the end is, if only this size's answers have changed
    have fin : ∀ I' : Nat → Nat → Int32, cb_ans n p cs I' → (∀ q k, q ≠ 29 → q ≠ 30 → q ≠ 31 → q ≠ 32 → q ≠ 33 → q ≠ 37 → q ≠ 38 → q ≠ 39 → ¬ (q = 22 ∧ 9 ≤ k ∧ k ≤ 11) → I' q k = I2 q k) → (∀ k, k ≠ n → I' 37 k = I2 37 k) → (∀ y, (y < 5 * n ∨ 5 * n + 5 ≤ y) → I' 38 y = I2 38 y) → (∀ y, (y < 48 * n ∨ 48 * n + 48 ≤ y) → I' 39 y = I2 39 y) → cb_sk p cs I' ∧ cb_fK I I' := fun I' ha hf h37 h38 h39 => by
      refine ⟨⟨⟨n, hn, ?_, fun _ => ?_⟩, fun z hz1 hz7 => ?_⟩, fun q k b1 b2 b3 b4 b5 b6 => ?_⟩
      · rw [hf 23 4 (by decide) (by decide) (by decide) (by decide) (by decide) (by decide) (by decide) (by decide) (by omega)]; exact xl2.1.1
      · have hr : ∀ q k, q = 23 ∨ q = 24 ∨ q = 25 ∨ q = 26 → I' q k = I2 q k := fun q k hq => hf q k (by omega) (by omega) (by omega) (by omega) (by omega) (by omega) (by omega) (by omega) (by omega)
        exact ⟨⟨(hr 23 4 (by omega)).trans xl2.1.1, (hr 23 5 (by omega)).trans xl2.1.2.1, fun i hi x hx => (hr 24 _ (by omega)).trans (xl2.1.2.2 i hi x hx)⟩, fun i hi => (hr 26 _ (by omega)).trans (xl2.2.1 i hi), fun i hi j hj => (hr 25 _ (by omega)).trans (xl2.2.2 i hi j hj)⟩
      · by_cases ez : z = n
        · right; rw [ez]; exact ha
        · have i36 : I' 36 z = I 36 z := by
            rw [hf 36 z (by decide) (by decide) (by decide) (by decide) (by decide) (by decide) (by decide) (by decide) (by omega), e2 36 z (by decide) (by decide) (by decide) (by decide) (by decide) (by omega) (by omega), congrFun (ij_u_ne (by decide)) z, ij_u_other _ _ _ _ ez]
          rcases hs.2 z hz1 hz7 with q | q
          · left; rw [i36]; exact q
          · right
            refine cb_ans_fr ?_ (fun w hw => ?_) (fun s t hs' ht => ?_) q
            · rw [h37 z ez, e2 37 z (by decide) (by decide) (by decide) (by decide) (by decide) (by omega) (by omega), ij_u_other _ _ _ _ ez, congrFun (ij_u_ne (by decide)) z]
            · rw [h38 _ (by omega), e2 38 _ (by decide) (by decide) (by decide) (by decide) (by decide) (by omega) (by omega)]; rfl
            · rw [h39 _ (by omega), e2 39 _ (by decide) (by decide) (by decide) (by decide) (by decide) (by omega) (by omega)]; rfl
      · rw [hf q k (by omega) (by omega) (by omega) (by omega) (by omega) (by omega) (by omega) (by omega) b6, e2 q k (by omega) (by omega) (by omega) (by omega) (by omega) b4 b5, lb_u_at (by omega), lb_u_at (by omega)]
    by_cases hT : cb_T2 n cs p ≤ 300000
    · rw [if_pos hT] at start
      have B0 : Nat → Nat → Int32 := I2
      -- the counters
      have xs3 : cb_xs n p cs (ij_u (ij_u (ij_u (ij_u I2 22 9 0) 22 10 0) 22 11 0) 38 (5 * n + 3) (-1)) := cb_xs_fX (s := 0) ⟨fun q k _ _ _ _ _ _ a7 _ a9 => by rw [lb_u_at (by omega), lb_u_at (by omega), lb_u_at (by omega), lb_u_at (by omega)], fun k hk => absurd hk (Nat.not_lt_zero k), fun y _ => rfl⟩ ⟨xx2, g2⟩
      have z37 : I2 37 n = 0 := by
        rw [e2 37 n (by decide) (by decide) (by decide) (by decide) (by decide) (by omega) (by omega), ij_u_same]
        rfl
      have V0 : cb_VX n p cs I2 [] (ij_u (ij_u (ij_u (ij_u I2 22 9 0) 22 10 0) 22 11 0) 38 (5 * n + 3) (-1)) := ⟨rfl, rfl, rfl, ⟨z37, ij_u_same _ _ _ _⟩, fun k _ => rfl, fun y hy => (ij_u_other _ _ _ _ hy).trans rfl, fun y _ => rfl⟩
      have hlen : ([] ++ cb_lv n p cs p []).length ≤ 300000 := by
        obtain ⟨m, rfl⟩ : ∃ m, p = m + 1 := ⟨p - 1, by omega⟩
        have h1 := cb_lv_len (n := n) (p := m + 1) (cs := cs) m []
        rw [cb_try_T2 hp3] at h1
        rw [List.nil_append]
        omega
      obtain ⟨I3, s1, s2, s3⟩ := lx_dfs (d := d + (8 - p)) (b := b) (J := J1) (cs := cs) (M := 300000) (Inv := cb_VX n p cs I2) hn1 hn hp3 hp hcs
        (fun l I I' hf hV => ⟨(hf 22 9 (by decide) (by decide)).trans hV.1, (hf 22 10 (by decide) (by decide)).trans hV.2.1, (hf 22 11 (by decide) (by decide)).trans hV.2.2.1, cb_fi_fr (hf 37 n (by decide) (by decide)) (hf 38 _ (by decide) (by decide)) (funext (fun k => hf 39 k (by decide) (by decide))) hV.2.2.2.1, fun k hk => (hf 37 k (by decide) (by decide)).trans (hV.2.2.2.2.1 k hk), fun y hy => (hf 38 y (by decide) (by decide)).trans (hV.2.2.2.2.2.1 y hy), fun y hy => (hf 39 y (by decide) (by decide)).trans (hV.2.2.2.2.2.2 y hy)⟩)
        (fun l a I hl hal hok hx hc hL hV => lx_weigh (X := xw_X) (d := d + (8 - p)) (b := b) (J := J1) hl hn1 hn hp3 hp hcs hal hok hx hc hL hV)
        p [] (Nat.zero_add p) (fun s hs' => absurd hs' (Nat.not_lt_zero s)) [] _ xs3 (fun k hk => absurd hk (Nat.not_lt_zero k)) (by
          rcases g3 with q | ⟨g, q1, q2⟩
          · exact Or.inl ⟨(congrFun (ij_u_ne (by decide)) _).trans q.1, q.2⟩
          · exact Or.inr ⟨g, fun t ht => (congrFun (ij_u_ne (by decide)) _).trans (q1 t ht), q2⟩) V0 hlen
      rw [List.nil_append] at s2
      rw [show d + (8 - p) + p + 8 = d + 16 by omega] at s1
      obtain ⟨V1, V2, V3, V4, V5⟩ := s2
      -- unlike ones
      have hlk : cb_lk n p (cb_lv n p cs p []) = n * (cb_lv n p cs p []).countP (cb_k3 n p) := cb_unlike hn1 hn hp3
      have hc3 : (cb_lv n p cs p []).countP (cb_k3 n p) ≤ 300000 := Nat.le_trans List.countP_le_length (by rw [List.nil_append] at hlen; exact hlen)
      have hmul : n * (cb_lv n p cs p []).countP (cb_k3 n p) ≤ 6 * 300000 := Nat.mul_le_mul (by omega) hc3
      have e11 : I3 22 11 / nI n = nI ((cb_lv n p cs p []).countP (cb_k3 n p)) := by
        rw [V3, hlk, pk_div (by omega) (by omega) (by omega), Nat.mul_div_cancel_left _ (by omega)]
      refine ⟨ij_u (ij_u (ij_u (ij_u I3 38 (5 * n + 0) (I3 22 9)) 38 (5 * n + 1) (I3 22 10)) 38 (5 * n + 2) (I3 22 11 / nI n)) 38 (5 * n + 4) (nI (cb_T2 n cs p)), J1, start _ _ ?_, ?_⟩
      · refine xp_X5_makeKnown_67_0 I2 J1 _ _ (nI_le (b := 300000) hT (by decide)) (lx_setAnswer (d := d + 15) (w := 3) hn (by decide)) (xp_X5_makeKnown_118_0 _ J1 _ _ s1 (xp_X5_makeKnown_124_0 I3 J1 _ _ (lx_setAnswer (d := d + 15) (w := 0) hn (by decide)) (xp_X5_makeKnown_134_0 _ J1 _ _ (lx_setAnswer (d := d + 15) (w := 1) hn (by decide)) (xp_X5_makeKnown_144_0 _ J1 _ _ (nI_ne0 hn1 (by omega)) (lx_setAnswer (d := d + 15) (w := 2) hn (by decide)) (xp_X5_makeKnown_156_0 _ J1 _ _ (lx_setAnswer (d := d + 15) (w := 4) hn (by decide)) (xp_X5_makeKnown_163_0 _ J1))))))
      · have at38 : ∀ y, y ≠ 5 * n + 0 → y ≠ 5 * n + 1 → y ≠ 5 * n + 2 → y ≠ 5 * n + 4 → ij_u (ij_u (ij_u (ij_u I3 38 (5 * n + 0) (I3 22 9)) 38 (5 * n + 1) (I3 22 10)) 38 (5 * n + 2) (I3 22 11 / nI n)) 38 (5 * n + 4) (nI (cb_T2 n cs p)) 38 y = I3 38 y := fun y a1 a2 a3 a4 => by rw [ij_u_other _ _ _ _ a4, ij_u_other _ _ _ _ a3, ij_u_other _ _ _ _ a2, ij_u_other _ _ _ _ a1]
        have ne38 : ∀ q, q ≠ 38 → ij_u (ij_u (ij_u (ij_u I3 38 (5 * n + 0) (I3 22 9)) 38 (5 * n + 1) (I3 22 10)) 38 (5 * n + 2) (I3 22 11 / nI n)) 38 (5 * n + 4) (nI (cb_T2 n cs p)) q = I3 q := fun q hq => by rw [ij_u_ne hq, ij_u_ne hq, ij_u_ne hq, ij_u_ne hq]
        have ha : cb_ans n p cs (ij_u (ij_u (ij_u (ij_u I3 38 (5 * n + 0) (I3 22 9)) 38 (5 * n + 1) (I3 22 10)) 38 (5 * n + 2) (I3 22 11 / nI n)) 38 (5 * n + 4) (nI (cb_T2 n cs p))) := by
          refine ⟨fun _ => ⟨?_, ?_, ?_, ij_u_same _ _ _ _, ?_⟩, fun q => absurd hT (by omega)⟩
          · rw [ij_u_other _ _ _ _ (by omega), ij_u_other _ _ _ _ (by omega), ij_u_other _ _ _ _ (by omega), ij_u_same]; exact V1
          · rw [ij_u_other _ _ _ _ (by omega), ij_u_other _ _ _ _ (by omega), ij_u_same]; exact V2
          · rw [ij_u_other _ _ _ _ (by omega), ij_u_same]; exact e11
          · exact cb_fi_fr (congrFun (ne38 37 (by decide)) n) (at38 _ (by omega) (by omega) (by omega) (by omega)) (ne38 39 (by decide)) V4
        obtain ⟨f1, f2⟩ := fin _ ha (fun q k a1 a2 a3 a4 a5 a6 a7 a8 a9 => by
          rw [ne38 q a7, s3.1 q k a1 a2 a3 a4 a5 a6 a7 a8 a9, lb_u_at (by omega), lb_u_at (by omega), lb_u_at (by omega), lb_u_at (by omega)]) (fun k hk => by rw [ne38 37 (by decide)]; exact V5.1 k hk) (fun y hy => by rw [at38 y (by omega) (by omega) (by omega) (by omega)]; exact V5.2.1 y (by omega)) (fun y hy => by rw [ne38 39 (by decide)]; exact V5.2.2 y hy)
        exact ⟨f1, ha, f2, t2⟩
    · rw [if_neg hT] at start
      obtain ⟨I', w1, w2, w3, w4⟩ := lx_spent (X := xw_X) (d := d + 15) (b := b) (J := J1) hn 5 0 I2 rfl
      have z37 : I' 37 n = 0 := by
        rw [w4 37 (by decide), e2 37 n (by decide) (by decide) (by decide) (by decide) (by decide) (by omega) (by omega), ij_u_same]
        rfl
      have ha : cb_ans n p cs I' := ⟨fun q => absurd q hT, fun _ => ⟨fun w hw => w2 w (Nat.zero_le w) hw, z37⟩⟩
      obtain ⟨f1, f2⟩ := fin I' ha (fun q k _ _ _ _ _ _ a7 _ _ => congrFun (w4 q a7) k) (fun k _ => congrFun (w4 37 (by decide)) k) (fun y hy => w3 y (by omega)) (fun y _ => congrFun (w4 39 (by decide)) y)
      exact ⟨I', J1, start _ _ (xp_X5_makeKnown_67_1 I2 J1 _ _ (by decide) w1), f1, ha, f2, t2⟩
  · refine ⟨I, J, ik_cr_of (Nat.le_of_ble_eq_true rfl) (xp_X5_makeKnown_0_4 I J _ c1 (by decide) c7 (by decide) c7 v7 (by rw [cl]; exact known)), hs, (hs.2 n hn1 hn).resolve_left known, fun _ _ _ _ _ _ _ _ => rfl, fun _ _ _ => rfl⟩
theorem rs_seeks {I : Nat → Nat → Int32} {J : Nat → Nat → Int64} (hn1 : 1 ≤ n) (hn : n < 7) (hp3 : 3 ≤ p) (hp : p ≤ 8) (hcs : ∀ j, j < p → cs j < 10 ∧ cs j ≠ 1) (h1 : I 0 1 = nI p) (hco : ∀ j, j < p → I 1 j = nI (cs j)) : ∃ I', (∀ q k, ¬ (29 ≤ q ∧ q ≤ 34) → ¬ (q = 0 ∧ 52 ≤ k ∧ k ≤ 58) → I' q k = I q k) ∧ (cb_T2 n cs p ≤ 300000 → rk_call (d + 5) 63 [.ref 0, .int (nI n)] (rk_R, I, J) (some (.int 1)) (rk_R, I', J) ∧ cb_V n p cs (cb_lv n p cs p []) I' ∧ I' 0 54 = nI (cb_T2 n cs p) ∧ cb_cx n p cs I') ∧ (300000 < cb_T2 n cs p → rk_call (d + 5) 63 [.ref 0, .int (nI n)] (rk_R, I, J) (some (.int 0)) (rk_R, I', J)) := by
  obtain ⟨I1, l1, l2, l3⟩ := rs_lists (d := d + 3) (J := J) hn1 (show n ≤ 6 by omega) I
  have hfl : ∀ q k, ¬ (29 ≤ q ∧ q ≤ 34) → ¬ (q = 0 ∧ 52 ≤ k ∧ k ≤ 58) → I1 q k = I q k := fun q k a1 a2 => l3 q k (by omega) (by omega) (by omega)
  have cx1 : cb_cx n p cs (ij_u (ij_u (ij_u (ij_u (ij_u (ij_u I1 0 54 0) 0 55 0) 0 56 0) 0 57 0) 0 58 0) 30 0 (-1)) := by
    refine cb_cx_fS (I := I1) (fun q k a1 _ _ _ a5 => by rw [lb_u_at (by omega), lb_u_at (by omega), lb_u_at (by omega), lb_u_at (by omega), lb_u_at (by omega), lb_u_at (by omega)]) ⟨l2, (hfl 0 1 (by omega) (by omega)).trans h1, fun j hj => (hfl 1 j (by omega) (by omega)).trans (hco j hj)⟩
  have st : ∀ v τ, rk_go (rk_call (d + 4)) 63 (39, [some (.ref 0), none, some (.int (nI 0))], [], (rk_R, ij_u (ij_u (ij_u (ij_u (ij_u (ij_u I1 0 54 0) 0 55 0) 0 56 0) 0 57 0) 0 58 0) 30 0 (-1), J)) v τ → rk_call (d + 5) 63 [.ref 0, .int (nI n)] (rk_R, I, J) v τ := fun v τ hg => ij_cr_of (Nat.le_of_ble_eq_true rfl) (rp_seeks_0_0 I J _ l1 (rp_seeks_5_0 I1 J (Or.inl rfl) (vp_in_nI (n := 0) (by decide) (by decide)) hg))
  obtain ⟨m, rfl⟩ : ∃ m, p = m + 1 := ⟨p - 1, by omega⟩
  have both := rs_dfs (d := d) (J := J) (n := n) (p := m + 1) (cs := cs) (Inv := cb_V n (m + 1) cs) hn hp3 hp (fun j hj => (hcs j hj).1) (fun l I I' h hV => cb_V_fr h hV)
    (fun l a I hal hok hc hat hV => rs_takes (d := d) (J := J) hn1 hn hp3 hp (fun j hj => (hcs j hj).1) hal hok hc hat hV)
    m [] (by show 0 + m + 1 = m + 1; omega) (fun k hk => absurd hk (Nat.not_lt_zero k)) 0 [] _ cx1 (fun k hk => absurd hk (Nat.not_lt_zero k)) (ij_u_same _ _ _ _) rfl (by decide) ⟨rfl, rfl, rfl, rfl⟩
  rw [cb_try_T2 hp3, Nat.zero_add, List.nil_append] at both
  have fr : ∀ K : Nat → Nat → Int32, cb_fS (ij_u (ij_u (ij_u (ij_u (ij_u (ij_u I1 0 54 0) 0 55 0) 0 56 0) 0 57 0) 0 58 0) 30 0 (-1)) K → ∀ q k, ¬ (29 ≤ q ∧ q ≤ 34) → ¬ (q = 0 ∧ 52 ≤ k ∧ k ≤ 58) → K q k = I q k := fun K hK q k a1 a2 => by
    rw [hK q k (by omega) (by omega) (by omega) (by omega) (by omega), lb_u_at (by omega), lb_u_at (by omega), lb_u_at (by omega), lb_u_at (by omega), lb_u_at (by omega), lb_u_at (by omega)]
    exact hfl q k a1 a2
  by_cases hT : cb_T2 n cs (m + 1) ≤ 300000
  · obtain ⟨I', z1, z2, z3, z4, z5⟩ := both.1 hT
    exact ⟨I', fr I' z4, fun _ => ⟨st _ _ (z5 _ _ (rp_seeks_39_0 I' J _ (by decide))), z3, z2, cb_cx_fS z4 cx1⟩, fun q => absurd hT (by omega)⟩
  · obtain ⟨I', z1, z2⟩ := both.2 (by omega)
    exact ⟨I', fr I' z1, fun q => absurd q hT, fun _ => st _ _ z2⟩
end CM1
