/-! ===== laying a board: both, from beginning to end ===== -/
/-- a board laid anew, as both leave their tables -/
def lay_t (p : Nat) (cs : Nat → Nat) (I : Nat → Nat → Int32) (J : Nat → Nat → Int64) (I2 : Nat → Nat → Int32) (J2 : Nat → Nat → Int64) (I' : Nat → Nat → Int32) (J' : Nat → Nat → Int64) (I2' : Nat → Nat → Int32) (J2' : Nat → Nat → Int64) : Prop :=
  (∃ (T M : Nat) (ac : Nat → Nat → Nat) (rg : Nat → Nat), pf_t p T M ac rg I' J' I2' J2') ∧
  (∀ j, j < 8 → I' 7 j = if j < p then nI (cs j) else 0) ∧
  ((∀ j, j < p → I' 8 j = I2' 22 j ∧ ∃ v, v < 8 ∧ I' 8 j = nI v) ∧ I' 6 11 = I2' 0 39) ∧
  lr_grow p cs I' J' ∧ I' 19 3 = -1 ∧ (∀ j, j < 7 → I' 36 j = 0) ∧
  ((∀ j, j < 8 → I' 41 j = I 5 j) ∧ (∀ j, j < 2000 → I' 43 j = 0 ∧ I2' 35 j = 0) ∧ (I' 42 1 = 0 ∧ I' 42 2 = 0 ∧ I' 42 3 = 0 ∧ I' 42 4 = 0) ∧ (I2' 0 59 = 0 ∧ I2' 0 60 = 0 ∧ I2' 0 61 = 0 ∧ I2' 0 62 = 0) ∧ I' 40 4 = 0 ∧ I' 40 5 = I 3 4) ∧
  (∀ q k, ¬ (7 ≤ q ∧ q ≤ 11) → q ≠ 13 → q ≠ 36 → q ≠ 41 → q ≠ 43 → ¬ (q = 6 ∧ 8 ≤ k ∧ k ≤ 11) → ¬ (q = 15 ∧ k = 3) → ¬ (q = 19 ∧ k = 3) → ¬ (q = 42 ∧ 1 ≤ k ∧ k ≤ 4) → ¬ (q = 40 ∧ (k = 4 ∨ k = 5)) → I' q k = I q k) ∧
  (∀ q, q ≠ 12 → ¬ (16 ≤ q ∧ q ≤ 18) → J' q = J q) ∧
  (∀ q k, ¬ (7 ≤ q ∧ q ≤ 13) → q ≠ 21 → q ≠ 22 → q ≠ 35 → ¬ (q = 0 ∧ (k = 21 ∨ k = 22 ∨ k = 39 ∨ (59 ≤ k ∧ k ≤ 62))) → I2' q k = I2 q k) ∧
  ∀ q, ¬ (14 ≤ q ∧ q ≤ 20) → J2' q = J2 q
section LAY1
variable {X : ij_R} {d e p : Nat} {b : Bool} {cs : Nat → Nat}
/-- the class at home -/
theorem lay_x0 (hp3 : 3 ≤ p) (hp : p ≤ 8) (hcs : ∀ j, j < p → cs j < 10) {I : Nat → Nat → Int32} {J : Nat → Nat → Int64} (h4 : ∀ j, j < p → I 4 j = nI (cs j)) : ∃ (I' : Nat → Nat → Int32) (J' : Nat → Nat → Int64), (∀ v τ, xk_go (ik_cr xk_P xk_M xk_Y xk_K X (d + 5)) 28 (62, [some (.ref 6), none, none, some (.int (nI 0)), some (.int 1), some (.int (nI (0 + 1))), none], [], (xk_R b, I', J')) v τ → lk_cx1 X (d + 6) 28 [.ref 6, .ref 4, .int (nI p)] (xk_R b, I, J) v τ) ∧ cr_t p cs 1 (fun _ _ => 2000) (fun _ => 0) I' J' ∧ (I' 6 10 = nI 0 ∧ I' 13 0 = 1 ∧ I' 6 11 = nI (kl_y p (fun j => decide (cs j % 2 = 1))).2 ∧ (∀ j, j < p → I' 8 j = nI ((kl_y p (fun j => decide (cs j % 2 = 1))).1 j)) ∧ ∀ j, j < 8 → I' 7 j = if j < p then nI (cs j) else 0) ∧ (∀ q k, ¬ (7 ≤ q ∧ q ≤ 11) → q ≠ 13 → ¬ (q = 6 ∧ 8 ≤ k ∧ k ≤ 11) → I' q k = I q k) ∧ ∀ q, q ≠ 12 → J' q = J q := by
  obtain ⟨I1, a1, a2, a3⟩ := lx_lay7 (C := ik_cr xk_P xk_M xk_Y xk_K X (d + 5)) (b := b) (J := J) hp 8 0 (ij_u I 6 8 (nI p)) (by omega)
  have c7 : ∀ j, j < p → I1 7 j = nI (cs j) := fun j hj => by
    rw [a2 j (by omega) (by omega), if_pos hj, ij_u_ne (by decide)]; exact h4 j hj
  have c68 : I1 6 8 = nI p := by
    rw [a3 6 8 (by omega), ij_u_same]
  obtain ⟨I2, b1, b2, b3, b4⟩ := lx_sort (X := X) (d := d + 3) (b := b) (J := J) (p := p) (cs := cs) (o := fun j => decide (cs j % 2 = 1)) (I := I1) ⟨⟨hp3, hp⟩, c68, fun j hj => ⟨c7 j hj, hcs j hj, decide_eq_true_iff.symm⟩⟩
  obtain ⟨I3, d1, d2, ⟨d3, d4, d5, d6⟩, d7⟩ := lx_atHome (X := X) (d := d + 2) (b := b) (J := J) (p := p) (I := I2) hp ((b4 6 8 (by decide) (by omega)).trans c68)
  have f7 : ∀ j, I3 7 j = I1 7 j := fun j => (d7 7 j (by omega) (by omega) (by omega) (by omega) (by omega) (by omega)).trans (b4 7 j (by decide) (by omega))
  refine ⟨I3, ij_u (ij_u J 12 0 0) 12 0 1, fun v τ z => ?_, ⟨d2, fun j hj => ⟨(f7 j).trans (c7 j hj), hcs j hj⟩, fun x y hx hy hy8 => ?_, ?_, fun x h0 hx => absurd hx (by omega)⟩, ⟨d3, d5, ?_, fun j hj => ?_, fun j hj => ?_⟩, fun q k x1 x2 x3 => ?_, fun q hq => ?_⟩
  · refine ik_cr_of (Nat.le_of_ble_eq_true rfl) (xp_X2_lay_4_0_0 I J _ (a1 _ _ _ _ b1 (xp_X2_lay_4_50_0 (b' := b) I2 J d1 (xp_X2_lay_4_54_0 I3 _ z))))
  · rw [show x = 0 by omega, Nat.mul_zero, Nat.zero_add]
    exact d6 y hy8
  · rw [ij_u_same]
  · rw [d7 6 11 (by omega) (by omega) (by omega) (by omega) (by omega) (by omega)]; exact b3
  · rw [d7 8 j (by omega) (by omega) (by omega) (by omega) (by omega) (by omega)]; exact b2 j hj
  · rw [f7 j, a2 j (by omega) hj]
    by_cases c : j < p
    · rw [if_pos c, if_pos c, ij_u_ne (by decide)]; exact h4 j c
    · rw [if_neg c, if_neg c]
  · rw [d7 q k (by omega) (by omega) (by omega) (by omega) (by omega) (by omega), b4 q k (by omega) (by omega), a3 q k (by omega)]
    by_cases c : q = 6
    · subst c
      rw [ij_u_other _ _ _ _ (by omega)]
    · rw [ij_u_ne c]
  · rw [ij_u_ne hq, ij_u_ne hq]
/-- the reference at home -/
theorem lay_r0 (hp3 : 3 ≤ p) (hp : p ≤ 8) (hcs : ∀ j, j < p → cs j < 10) {I : Nat → Nat → Int32} {J : Nat → Nat → Int64} (h1 : I 0 1 = nI p) (h4 : ∀ j, j < p → I 1 j = nI (cs j)) : ∃ (I' : Nat → Nat → Int32) (J' : Nat → Nat → Int64) (tb : Nat → Nat), (∀ v τ, rk_go (rk_call (e + 3)) 29 (129, [some (.ref 0), none, some (.int (nI 0)), some (.int (nI 1)), none, none], [], (rk_R, I', J')) v τ → rk_call (e + 4) 29 [.ref 0] (rk_R, I, J) v τ) ∧ rr_t p cs 1 (pd (fun _ _ => 2000) 0 0) (fun _ => 0) (fun _ _ => 1) (fun _ _ => 1) tb I' J' ∧ (I' 0 22 = nI 0 ∧ I' 13 0 = 1 ∧ I' 10 0 = 0 ∧ I' 0 39 = nI (kl_go p (fun j => decide (cs j % 2 = 1)) p 0 0 (fun _ => 9)).2 ∧ kl_t p (kl_go p (fun j => decide (cs j % 2 = 1)) p 0 0 (fun _ => 9)).1 I') ∧ (∀ q k, ¬ (7 ≤ q ∧ q ≤ 13) → q ≠ 21 → q ≠ 22 → ¬ (q = 0 ∧ (k = 21 ∨ k = 22 ∨ k = 39)) → I' q k = I q k) ∧ ∀ q, ¬ (14 ≤ q ∧ q ≤ 20) → J' q = J q := by
  obtain ⟨J1, a1, a2, a3⟩ := rs_angles (d := e + 1) hp3 hp hcs h1 h4 J
  obtain ⟨I2, b1, b2, b3, b4⟩ := rs_classes (d := e + 2) (J := J1) (p := p) (cs := cs) (o := fun j => decide (cs j % 2 = 1)) (I := I) ⟨⟨hp3, hp⟩, h1, fun j hj => ⟨h4 j hj, hcs j hj, decide_eq_true_iff.symm⟩⟩
  obtain ⟨I3, c1, c2, c3⟩ := rs_lays10 (C := rk_call (e + 3)) (J := J1) 8192 0 I2 (by omega) (fun j hj => absurd hj (by omega))
  obtain ⟨I4, d1, d2, d3⟩ := rs_lays32 (C := rk_call (e + 3)) (J := J1) 2000 0 I3 (by omega) (fun j hj => absurd hj (by omega))
  obtain ⟨J5, f1, f2, f3⟩ := rs_lays59 (C := rk_call (e + 3)) (I := ij_u I4 0 21 0) 8 0 J1 (by omega) (fun j hj => absurd hj (by omega))
  have g1 : I4 0 1 = nI p := by
    rw [d3 0 (by decide), c3 0 (by decide), b4 0 1 (by decide) (by omega)]; exact h1
  obtain ⟨w, tb, I6, J6, k1, k2, k3, ⟨k4, k5, k6, k7, k8, k9⟩, k10, k11⟩ := rs_lays90 (d := e + 1) (p := p) (cs := cs) (I := ij_u I4 0 21 0) (J := J5) hp3 hp (by rw [ij_u_other _ _ _ _ (by decide)]; exact g1) (by rw [ij_u_same]) (fun i j hi hj => by
    rw [f3 19 (by decide) (by decide), f3 20 (by decide) (by decide)]; exact a2 i j hi hj) (fun y hy => by
    rw [ij_u_ne (by decide), d3 21 (by decide)]; exact c2 y hy) f2
  obtain ⟨v1, v2, v3, v4, v5, v6⟩ := k3
  have i22 : ∀ j, I6 22 j = I2 22 j := fun j => by
    rw [k10 22 j (by omega) (by omega) (by omega) (by decide), ij_u_ne (by decide), d3 22 (by decide), c3 22 (by decide)]
  refine ⟨ij_u (ij_u I6 13 0 1) 0 22 0, ij_u J6 14 0 1, tb, fun v τ z => ?_, ⟨⟨v1, v2, ?_, ?_, fun i j hi hj => ?_, rv_fr v6 ?_ ?_ ?_⟩, fun x hx => ?_, ?_, fun x h0 hx => absurd hx (by omega)⟩, ⟨?_, ?_, ?_, ?_, fun j hj => ?_⟩, fun q k x1 x2 x3 x4 => ?_, fun q hq => ?_⟩
  · exact ij_cr_of (Nat.le_of_ble_eq_true rfl) (rp_lays_0_0 I J a1 (rp_lays_4_0 I J1 b1 (rp_lays_8_0 I2 J1 (c1 v τ (d1 v τ (f1 w v τ k1 (k2 v τ z)))))))
  · rw [ij_u_other _ _ _ _ (by decide), ij_u_ne (by decide)]; exact v3
  · rw [ij_u_other _ _ _ _ (by decide), ij_u_ne (by decide)]; exact v4
  · rw [ij_u_ne (by decide), ij_u_ne (by decide)]; exact v5 i j hi hj
  · rw [ij_u_ne (by decide), ij_u_ne (by decide)]
  · rw [ij_u_ne (by decide)]
  · rw [ij_u_ne (by decide)]
  · rw [show x = 0 by omega]
    refine ⟨?_, ?_, fun y hy => ?_, fun y hy hy8 => ?_⟩
    · rw [ij_u_ne (by decide), ij_u_ne (by decide)]; exact k4
    · rw [ij_u_ne (by decide), ij_u_ne (by decide), k5]
      unfold ln
      rw [sm_congr (g := fun _ => 0) (fun y _ => if_neg (by omega)), sm_zero]; rfl
    · rw [ij_u_ne (by decide), ij_u_ne (by decide), Nat.mul_zero, Nat.zero_add, k9 y (by omega)]
      unfold pd
      rw [if_neg (by omega)]; rfl
    · rw [ij_u_ne (by decide), ij_u_ne (by decide), Nat.mul_zero, Nat.zero_add]; exact k9 y hy8
  · rw [ij_u_same]
  · rw [ij_u_same]; rfl
  · rw [ij_u_ne (by decide), ij_u_same]
  · rw [ij_u_ne (by decide), ij_u_ne (by decide)]; exact k6
  · rw [ij_u_other _ _ _ _ (by decide), ij_u_ne (by decide), k10 0 39 (by omega) (by omega) (by omega) (by decide), ij_u_other _ _ _ _ (by decide), d3 0 (by decide), c3 0 (by decide)]; exact b3
  · rw [ij_u_ne (by decide), ij_u_ne (by decide), i22 j]; exact b2 j hj
  · by_cases c : q = 0
    · subst c
      rw [ij_u_other _ _ _ _ (by omega), ij_u_ne (by decide), k10 0 k (by omega) (by omega) (by omega) (by decide), ij_u_other _ _ _ _ (by omega), d3 0 (by decide), c3 0 (by decide), b4 0 k (by decide) (by omega)]
    · rw [ij_u_ne c, ij_u_ne (by omega), k10 q k (by omega) (by omega) (by omega) (by omega), ij_u_ne c, d3 q (by omega), c3 q (by omega), b4 q k (by omega) (by omega)]
  · rw [ij_u_ne (by omega)]
    funext k
    rw [k11 q k (by omega) (by omega), f3 q (by omega) (by omega), a3 q (by omega) (by omega)]
/-- both, whole -/
theorem lay_both (hp3 : 3 ≤ p) (hp : p ≤ 8) (hcs : ∀ j, j < p → cs j < 10) (hQ : ∃ Q, pg_ok p cs Q) {I : Nat → Nat → Int32} {J : Nat → Nat → Int64} {I2 : Nat → Nat → Int32} {J2 : Nat → Nat → Int64} (h3 : I 3 3 = nI p) (h4 : ∀ j, j < p → I 4 j = nI (cs j)) (k1 : I2 0 1 = nI p) (k4 : ∀ j, j < p → I2 1 j = nI (cs j)) : ∃ (I' : Nat → Nat → Int32) (J' : Nat → Nat → Int64) (I2' : Nat → Nat → Int32) (J2' : Nat → Nat → Int64), lk_cx1 X (d + 7) 139 [.ref 0] (xk_R b, I, J) none (xk_R b, I', J') ∧ rk_call (e + 4) 29 [.ref 0] (rk_R, I2, J2) none (rk_R, I2', J2') ∧ lay_t p cs I J I2 J2 I' J' I2' J2' := by
  obtain ⟨Q, hQ⟩ := hQ
  obtain ⟨I1, J1, a1, a2, ⟨a3, a4, a5, a6, a7⟩, a8, a9⟩ := lay_x0 (X := X) (d := d) (b := b) (J := J) hp3 hp hcs h4
  obtain ⟨Ir, Jr, tb, r1, r2, ⟨r3, r4, r5, r6, r7⟩, r8, r9⟩ := lay_r0 (e := e) (J := J2) hp3 hp hcs k1 k4
  obtain ⟨T, M, ac, rg, I3, J3, Is, Js, l1, l2, l3, l4⟩ := jt_lay (X := X) (d := d) (e := e) (b := b) hp3 hQ 63 0 0 1 _ _ _ _ I1 J1 Ir Jr (by omega) ⟨hQ.1, a2, ⟨tb, r2⟩, r5, fun x h0 hx => absurd hx (by omega)⟩ rfl (fun x hx => absurd hx (by omega)) (fun _ _ _ => rfl) a3 r3 (fun k hk => by rw [show k = 0 by omega, a4, r4])
  obtain ⟨l41, l42, l43, l44⟩ := l4
  have fr3 : ∀ k, I3 3 k = I 3 k := fun k => (l41 3 k (by omega) (by omega) (by omega)).trans (a8 3 k (by omega) (by omega) (by omega))
  have fr4 : ∀ k, I3 4 k = I 4 k := fun k => (l41 4 k (by omega) (by omega) (by omega)).trans (a8 4 k (by omega) (by omega) (by omega))
  obtain ⟨I5, J5, m1, m2, m3, m4⟩ := lx_reckon (X := X) (d := d + 3) (b := b) (p := p) (cr := cs) hp I3 J3 (fun c hc => ⟨(fr4 c).trans (h4 c hc), hcs c hc⟩)
  obtain ⟨I7, s1, s2, s3⟩ := lx_sforget (X := X) (d := d + 5) (b := b) (J := J5) (I := ij_u I5 19 3 (-1))
  obtain ⟨I8, t1, t2, t3, t4, ⟨t5, t6⟩, t7⟩ := lx_beginAnew (X := X) (d := d + 3) (b := b) (J := J5) (I := I7) (n := I 3 4)
  obtain ⟨Iz, z1, z2, z3, z4⟩ := rs_lays248 (C := rk_call (e + 3)) (J := Js) 2000 0 Is (by omega) (fun j hj => absurd hj (by omega))
  -- what the class's tables are behind the plane
  have fx : ∀ q k, q ≠ 36 → q ≠ 41 → q ≠ 43 → ¬ (q = 15 ∧ k = 3) → ¬ (q = 19 ∧ k = 3) → ¬ (q = 42 ∧ 1 ≤ k ∧ k ≤ 4) → ¬ (q = 40 ∧ (k = 4 ∨ k = 5)) → I8 q k = I3 q k := fun q k b1 b2 b3 b4 b5 b6 b7 => by
    rw [t7 q k b2 b3 b6 (by omega) (by omega), s3 q b1]
    by_cases c : q = 19
    · subst c
      rw [ij_u_other _ _ _ _ (by omega), m3 19 k (by omega)]
    · rw [ij_u_ne c, m3 q k b4]
  have fr : ∀ q k, q ≠ 35 → ¬ (q = 0 ∧ 59 ≤ k ∧ k ≤ 62) → Iz q k = Is q k := fun q k b1 b2 => z4 q k b1 b2
  have gx : ∀ q, q ≠ 36 → q ≠ 41 → q ≠ 43 → q ≠ 15 → q ≠ 19 → q ≠ 42 → q ≠ 40 → ∀ k, I8 q k = I3 q k := fun q b1 b2 b3 b4 b5 b6 b7 k => fx q k b1 b2 b3 (by omega) (by omega) (by omega) (by omega)
  have kq := kl_same hp3 hp (fun j => decide (cs j % 2 = 1))
  refine ⟨I8, J5, Iz, Js, ?_, ?_, ⟨T, M, ac, rg, ?_⟩, fun j hj => ?_, ⟨fun j hj => ?_, ?_⟩, ?_, ?_, fun j hj => ?_, ⟨fun j hj => ?_, fun j hj => ⟨t3 j hj, z2 j hj⟩, t4, z3, t5, t6⟩, fun q k b1 b2 b3 b4 b5 b6 b7 b8 b9 b10 => ?_, fun q b1 b2 => ?_, fun q k b1 b2 b3 b4 b5 => ?_, fun q b1 => ?_⟩
  · refine ik_cr_of (Nat.le_of_ble_eq_true rfl) (xp_X10_layAnew_0_0 (b' := b) I J (by rw [h3]; exact a1 _ _ l1) (xp_X10_layAnew_21_0 (b' := b) I3 J3 (by rw [fr3 3, h3]; exact m1) (xp_X10_layAnew_42_0 (b' := b) I5 J5 (lx_wforget (d := d + 5)) (xp_X10_layAnew_49_0 (b' := b) _ J5 s1 (xp_X10_layAnew_56_0 (b' := b) I7 J5 ?_ (xp_X10_layAnew_77_0 I8 J5))))))
    have e34 : I7 3 4 = I 3 4 := by
      rw [s3 3 (by decide), ij_u_ne (by decide), m3 3 4 (by omega), fr3 4]
    rw [e34]; exact t1
  · exact r1 _ _ (l2 _ _ z1)
  · obtain ⟨p1, ⟨p2, p3, p4, p5, p6, p7, p8⟩, p9, p10, p11, p12, p13⟩ := l3
    refine ⟨p1, ⟨(gx 6 (by decide) (by decide) (by decide) (by decide) (by decide) (by decide) (by decide) 8).trans p2, (fr 0 1 (by decide) (by omega)).trans p3, (gx 6 (by decide) (by decide) (by decide) (by decide) (by decide) (by decide) (by decide) 9).trans p4, (fr 0 21 (by decide) (by omega)).trans p5, (gx 6 (by decide) (by decide) (by decide) (by decide) (by decide) (by decide) (by decide) 10).trans p6, (fr 0 22 (by decide) (by omega)).trans p7, fun k hk => ?_⟩, fun x hx => ?_, p10, p11, (fr 10 0 (by decide) (by omega)).trans p12, fun x h0 hx => ?_⟩
    · rw [gx 13 (by decide) (by decide) (by decide) (by decide) (by decide) (by decide) (by decide) k, fr 13 k (by decide) (by omega)]; exact p8 k hk
    · obtain ⟨q1, q2, q3, q4, q5, q6, q7, q8⟩ := p9 x hx
      refine ⟨(gx 10 (by decide) (by decide) (by decide) (by decide) (by decide) (by decide) (by decide) x).trans q1, (fr 8 x (by decide) (by omega)).trans q2, q3, (fr 9 x (by decide) (by omega)).trans q4, ?_, fun y hy => ?_, fun y hy hy8 => ?_, q8⟩
      · rw [m4 12 (by decide) (by decide) (by decide)]; exact q5
      · rw [gx 9 (by decide) (by decide) (by decide) (by decide) (by decide) (by decide) (by decide), fr 7 _ (by decide) (by omega)]; exact q6 y hy
      · rw [gx 9 (by decide) (by decide) (by decide) (by decide) (by decide) (by decide) (by decide), fr 7 _ (by decide) (by omega)]; exact q7 y hy hy8
    · obtain ⟨s, u, q1, q2, q3, q4, q5, q6, q7, q8⟩ := p13 x h0 hx
      refine ⟨s, u, q1, q2, (gx 11 (by decide) (by decide) (by decide) (by decide) (by decide) (by decide) (by decide) x).trans q3, (fr 12 x (by decide) (by omega)).trans q4, (fr 11 x (by decide) (by omega)).trans q5, q6, q7, ?_⟩
      rw [fr 10 x (by decide) (by omega), fr 10 u (by decide) (by omega), fr 22 s (by decide) (by omega)]; exact q8
  · rw [gx 7 (by decide) (by decide) (by decide) (by decide) (by decide) (by decide) (by decide) j, l41 7 j (by omega) (by omega) (by omega)]; exact a7 j hj
  · obtain ⟨kq1, kq2⟩ := kq.2.2 j hj
    have c8 : I8 8 j = nI ((kl_y p (fun j => decide (cs j % 2 = 1))).1 j) := by
      rw [gx 8 (by decide) (by decide) (by decide) (by decide) (by decide) (by decide) (by decide) j, l41 8 j (by omega) (by omega) (by omega)]; exact a6 j hj
    have lt : (kl_y p (fun j => decide (cs j % 2 = 1))).1 j < 8 := by have := kq.2.1; omega
    refine ⟨?_, _, lt, c8⟩
    rw [c8, fr 22 j (by decide) (by omega), l43 22 j (by omega) (by omega) (by omega), (r7 j hj).1, kq1]
    unfold cb_e
    rw [if_neg (by omega)]
  · rw [gx 6 (by decide) (by decide) (by decide) (by decide) (by decide) (by decide) (by decide) 11, l41 6 11 (by omega) (by omega) (by omega), a5, fr 0 39 (by decide) (by omega), l43 0 39 (by omega) (by omega) (by omega), r6, kq.1]
  · obtain ⟨K, g1, g2, g3⟩ := m2
    refine ⟨K, ?_, g2, g3⟩
    rw [t7 15 3 (by decide) (by decide) (by omega) (by omega) (by omega), s3 15 (by decide), ij_u_ne (by decide)]; exact g1
  · rw [t7 19 3 (by decide) (by decide) (by omega) (by omega) (by omega), s3 19 (by decide), ij_u_same]
  · rw [t7 36 j (by decide) (by decide) (by omega) (by omega) (by omega)]; exact s2 j hj
  · rw [t2 j hj, s3 5 (by decide), ij_u_ne (by decide), m3 5 j (by omega), l41 5 j (by omega) (by omega) (by omega), a8 5 j (by omega) (by omega) (by omega)]
  · rw [fx q k b3 b4 b5 b7 b8 b9 b10, l41 q k (by omega) b2 (by omega), a8 q k b1 b2 b6]
  · rw [m4 q (by omega) (by omega) (by omega), l42 q b1, a9 q b1]
  · rw [fr q k b4 (by omega), l43 q k b1 b2 (by omega), r8 q k b1 b2 b3 (by omega)]
  · rw [l44 q (by omega), r9 q b1]
end LAY1
