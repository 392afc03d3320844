/-! ===== laying a board: classes of sides ===== -/
def kl_u (f : Nat → Nat) (k c : Nat) : Nat → Nat := fun x => if x = k then c else f x
def kl_fw (p : Nat) (o : Nat → Bool) (i c : Nat) : Nat → Nat → (Nat → Nat) → (Nat → Nat)
  | 0, _, f => f
  | r + 1, z, f => if o ((i + z - 1) % p) then kl_fw p o i c r (z + 1) (kl_u f ((i + z) % p) c) else f
def kl_bw (p : Nat) (o : Nat → Bool) (i c : Nat) : Nat → Nat → (Nat → Nat) → (Nat → Nat)
  | 0, _, f => f
  | r + 1, z, f => if o ((i + p - z) % p) then kl_bw p o i c r (z + 1) (kl_u f ((i + p - z) % p) c) else f
def kl_go (p : Nat) (o : Nat → Bool) : Nat → Nat → Nat → (Nat → Nat) → (Nat → Nat) × Nat
  | 0, _, c, f => (f, c)
  | r + 1, i, c, f => if f i = 9 then kl_go p o r (i + 1) (c + 1) (kl_bw p o i c (p - 1) 1 (kl_fw p o i c (p - 1) 1 (kl_u f i c))) else kl_go p o r (i + 1) c f
/-- the class's: sides below s -/
def kl_x (o : Nat → Bool) : Nat → (Nat → Nat) × Nat
  | 0 => (fun _ => 9, 0)
  | s + 1 => if s = 0 ∨ o (s - 1) = false then (kl_u (kl_x o s).1 s (kl_x o s).2, (kl_x o s).2 + 1) else (kl_u (kl_x o s).1 s ((kl_x o s).2 - 1), (kl_x o s).2)
def kl_y (p : Nat) (o : Nat → Bool) : (Nat → Nat) × Nat := if 1 < (kl_x o p).2 ∧ o (p - 1) = true then (fun x => if (kl_x o p).1 x = (kl_x o p).2 - 1 then 0 else (kl_x o p).1 x, (kl_x o p).2 - 1) else kl_x o p
def kl_ok (p B : Nat) : Bool := (kl_go p (fun i => B.testBit i) p 0 0 (fun _ => 9)).2 == (kl_y p (fun i => B.testBit i)).2 && (Nat.ble (kl_y p (fun i => B.testBit i)).2 p && (List.range p).all (fun x => (kl_go p (fun i => B.testBit i) p 0 0 (fun _ => 9)).1 x == (kl_y p (fun i => B.testBit i)).1 x && Nat.blt ((kl_y p (fun i => B.testBit i)).1 x) (kl_y p (fun i => B.testBit i)).2))
set_option maxRecDepth 100000 in
theorem kl_oks : ∀ p : Fin 9, 3 ≤ p.1 → ∀ B : Fin 256, kl_ok p.1 B.1 = true := by decide +kernel
theorem kl_bits (o : Nat → Bool) : ∀ k, ∃ B, B < 2 ^ k ∧ ∀ i, i < k → B.testBit i = o i := by
  intro k
  induction k with
  | zero => exact ⟨0, by decide, fun i hi => absurd hi (Nat.not_lt_zero i)⟩
  | succ k ih =>
    obtain ⟨B, h1, h2⟩ := ih
    have hk : B < 2 ^ (k + 1) := by rw [Nat.pow_succ]; omega
    by_cases e : o k = true
    · refine ⟨B ||| 2 ^ k, Nat.or_lt_two_pow hk (Nat.pow_lt_pow_right (by decide) (by omega)), fun i hi => ?_⟩
      rw [Nat.testBit_or, Nat.testBit_two_pow]
      by_cases ei : i = k
      · rw [ei, decide_eq_true rfl, Bool.or_true]; exact e.symm
      · rw [decide_eq_false (fun q => ei q.symm), Bool.or_false]; exact h2 i (by omega)
    · refine ⟨B, hk, fun i hi => ?_⟩
      by_cases ei : i = k
      · rw [ei, Nat.testBit_lt_two_pow h1]
        cases h : o k with
        | false => rfl
        | true => exact absurd h e
      · exact h2 i (by omega)
section KL1
variable {d p : Nat} {cs : Nat → Nat} {o : Nat → Bool} {J : Nat → Nat → Int64}
/-- classes so far, as the reference holds them -/
def kl_t (p : Nat) (f : Nat → Nat) (I : Nat → Nat → Int32) : Prop := ∀ j, j < p → I 22 j = cb_e (f j) ∧ f j < 10
theorem kl_t_u {f : Nat → Nat} {k c : Nat} {I : Nat → Nat → Int32} (hc : c < 9) (h : kl_t p f I) : kl_t p (kl_u f k c) (ij_u I 22 k (nI c)) := fun j hj => by
  unfold kl_u
  by_cases e : j = k
  · subst e
    rw [ij_u_same, if_pos rfl, cb_e_lt hc]
    exact ⟨rfl, by omega⟩
  · rw [ij_u_other _ _ _ _ e, if_neg e]
    exact h j hj
/-- what classes need of a board -/
def kl_c (p : Nat) (cs : Nat → Nat) (o : Nat → Bool) (I : Nat → Nat → Int32) : Prop := (3 ≤ p ∧ p ≤ 8) ∧ I 0 1 = nI p ∧ ∀ j, j < p → I 1 j = nI (cs j) ∧ cs j < 10 ∧ (cs j % 2 = 1 ↔ o j = true)
theorem kl_c_fr {I I' : Nat → Nat → Int32} (h : ∀ q k, q ≠ 22 → ¬ (q = 0 ∧ k = 39) → I' q k = I q k) (hc : kl_c p cs o I) : kl_c p cs o I' := ⟨hc.1, (h 0 1 (by decide) (by omega)).trans hc.2.1, fun j hj => ⟨(h 1 j (by decide) (by omega)).trans (hc.2.2 j hj).1, (hc.2.2 j hj).2⟩⟩
theorem kl_par {I : Nat → Nat → Int32} (hc : kl_c p cs o I) {j : Nat} (hj : j < p) : (I 1 j - I 1 j / 2 * 2 = 1) ↔ o j = true := by
  obtain ⟨c1, c2, c3⟩ := hc.2.2 j hj
  rw [c1, show (2 : Int32) = nI 2 from rfl, cb_mod (by decide) (by omega) (by decide), ← c3]
  exact nI_eq (b := 1) (by omega) (by decide)
theorem rs_cl63 {C : ij_R} {i c : Nat} (hi : i < p) (hc9 : c < 9) : ∀ (r z : Nat) (f : Nat → Nat) (I : Nat → Nat → Int32), z + r = p → 1 ≤ z → kl_c p cs o I → I 0 39 = nI c → kl_t p f I → ∃ I' : Nat → Nat → Int32, (∀ v τ, rk_go C 22 (117, [some (.ref 0), some (.int (nI i)), some (.int 1)], [], (rk_R, I', J)) v τ → rk_go C 22 (63, [some (.ref 0), some (.int (nI i)), some (.int (nI z))], [], (rk_R, I, J)) v τ) ∧ kl_t p (kl_fw p o i c r z f) I' ∧ ∀ q, q ≠ 22 → I' q = I q := by
  intro r
  induction r with
  | zero =>
    intro z f I hz h1 hc h39 ht
    have : z = p := by omega
    subst this
    exact ⟨I, fun v τ hg => rp_classes_63_0 I J _ _ (by rw [hc.2.1]; exact nI_le (Nat.le_refl z) (by have := hc.1; omega)) hg, ht, fun _ _ => rfl⟩
  | succ r ih =>
    intro z f I hz h1 hc h39 ht
    obtain ⟨p3, p8⟩ := hc.1
    have hge : ¬ I 0 1 ≤ nI z := by rw [hc.2.1]; exact nI_ge (by omega) (by omega)
    have np : ¬ I 0 1 = 0 := by rw [hc.2.1]; exact nI_ne0 (by omega) (by omega)
    have hm1 := Nat.mod_lt (i + z - 1) (show 0 < p by omega)
    have hm2 := Nat.mod_lt (i + z) (show 0 < p by omega)
    have e1 : nI i + nI z - 1 - (nI i + nI z - 1) / I 0 1 * I 0 1 = nI ((i + z - 1) % p) := by
      rw [show nI i + nI z = nI (i + z) from (Int32.ofNat_add _ _).symm, nI_sub1 (by omega), hc.2.1, cb_mod (by omega) (by omega) (by omega)]
    have e2 : nI i + nI z - (nI i + nI z) / I 0 1 * I 0 1 = nI ((i + z) % p) := by
      rw [show nI i + nI z = nI (i + z) from (Int32.ofNat_add _ _).symm, hc.2.1, cb_mod (by omega) (by omega) (by omega)]
    have c1 : (nI ((i + z - 1) % p)).toNatClampNeg = (i + z - 1) % p := nI_clamp (by omega)
    have c2 : (nI ((i + z) % p)).toNatClampNeg = (i + z) % p := nI_clamp (by omega)
    by_cases e : o ((i + z - 1) % p) = true
    · have ef : kl_fw p o i c (r + 1) z f = kl_fw p o i c r (z + 1) (kl_u f ((i + z) % p) c) := by
        show (if _ then _ else _) = _
        rw [if_pos e]
      rw [ef]
      obtain ⟨I', k1, k2, k3⟩ := ih (z + 1) (kl_u f ((i + z) % p) c) (ij_u I 22 ((i + z) % p) (nI c)) (by omega) (by omega) (kl_c_fr (fun q k a1 _ => lb_u_at (fun z => a1 z.1)) hc) h39 (kl_t_u hc9 ht)
      refine ⟨I', fun v τ hg => ?_, k2, fun q hq => (k3 q hq).trans (ij_u_ne hq)⟩
      have z' := k1 v τ hg
      rw [← nI_1] at z'
      have q := rp_classes_63_2 (C := C) (v := v) (τ := τ) I J (nI i) (nI z) hge np
      rw [e1, e2, c1, c2, h39] at q
      exact q (vp_in_nI (by omega) (by decide)) (by decide) ((kl_par hc hm1).mpr e) np (vp_in_nI (by omega) (by decide)) z'
    · have ef : kl_fw p o i c (r + 1) z f = f := by
        show (if _ then _ else _) = _
        rw [if_neg e]
      rw [ef]
      refine ⟨I, fun v τ hg => ?_, ht, fun _ _ => rfl⟩
      have q := rp_classes_63_1 (C := C) (v := v) (τ := τ) I J (nI i) (nI z) hge np
      rw [e1, c1] at q
      exact q (vp_in_nI (by omega) (by decide)) (by decide) (fun q => e ((kl_par hc hm1).mp q)) hg
theorem rs_cl117 {C : ij_R} {i c : Nat} (hi : i < p) (hc9 : c < 9) : ∀ (r z : Nat) (f : Nat → Nat) (I : Nat → Nat → Int32), z + r = p → 1 ≤ z → kl_c p cs o I → I 0 39 = nI c → kl_t p f I → ∃ I' : Nat → Nat → Int32, (∀ v τ, rk_go C 22 (30, [some (.ref 0), some (.int (nI (i + 1))), none], [], (rk_R, I', J)) v τ → rk_go C 22 (117, [some (.ref 0), some (.int (nI i)), some (.int (nI z))], [], (rk_R, I, J)) v τ) ∧ kl_t p (kl_bw p o i c r z f) I' ∧ I' 0 39 = nI (c + 1) ∧ ∀ q k, q ≠ 22 → ¬ (q = 0 ∧ k = 39) → I' q k = I q k := by
  intro r
  induction r with
  | zero =>
    intro z f I hz h1 hc h39 ht
    have : z = p := by omega
    subst this
    refine ⟨ij_u I 0 39 (I 0 39 + 1), fun v τ hg => ?_, ht, by show I 0 39 + 1 = _; rw [h39, nI_1], fun q k _ a2 => lb_u_at a2⟩
    rw [← nI_1] at hg
    exact rp_classes_117_0 I J _ _ (by rw [hc.2.1]; exact nI_le (Nat.le_refl z) (by have := hc.1; omega)) hg
  | succ r ih =>
    intro z f I hz h1 hc h39 ht
    obtain ⟨p3, p8⟩ := hc.1
    have hge : ¬ I 0 1 ≤ nI z := by rw [hc.2.1]; exact nI_ge (by omega) (by omega)
    have np : ¬ I 0 1 = 0 := by rw [hc.2.1]; exact nI_ne0 (by omega) (by omega)
    have hm1 := Nat.mod_lt (i + p - z) (show 0 < p by omega)
    have e1 : nI i - nI z + I 0 1 - (nI i - nI z + I 0 1) / I 0 1 * I 0 1 = nI ((i + p - z) % p) := by
      have : nI i - nI z + I 0 1 = nI (i + p - z) := by
        rw [hc.2.1, Int32.sub_eq_add_neg, Int32.add_assoc, Int32.add_comm (-nI z), ← Int32.add_assoc, ← Int32.sub_eq_add_neg, show nI i + nI p = nI (i + p) from (Int32.ofNat_add _ _).symm, pk_sub (by omega)]
      rw [this, hc.2.1, cb_mod (by omega) (by omega) (by omega)]
    have c1 : (nI ((i + p - z) % p)).toNatClampNeg = (i + p - z) % p := nI_clamp (by omega)
    by_cases e : o ((i + p - z) % p) = true
    · have ef : kl_bw p o i c (r + 1) z f = kl_bw p o i c r (z + 1) (kl_u f ((i + p - z) % p) c) := by
        show (if _ then _ else _) = _
        rw [if_pos e]
      rw [ef]
      obtain ⟨I', k1, k2, k3, k4⟩ := ih (z + 1) (kl_u f ((i + p - z) % p) c) (ij_u I 22 ((i + p - z) % p) (nI c)) (by omega) (by omega) (kl_c_fr (fun q k a1 _ => lb_u_at (fun z => a1 z.1)) hc) h39 (kl_t_u hc9 ht)
      refine ⟨I', fun v τ hg => ?_, k2, k3, fun q k a1 a2 => (k4 q k a1 a2).trans (lb_u_at (fun z => a1 z.1))⟩
      have z' := k1 v τ hg
      rw [← nI_1] at z'
      have q := rp_classes_117_2 (C := C) (v := v) (τ := τ) I J (nI i) (nI z) hge np
      rw [e1, c1, h39] at q
      exact q (vp_in_nI (by omega) (by decide)) (by decide) ((kl_par hc hm1).mpr e) np (vp_in_nI (by omega) (by decide)) z'
    · have ef : kl_bw p o i c (r + 1) z f = f := by
        show (if _ then _ else _) = _
        rw [if_neg e]
      rw [ef]
      refine ⟨ij_u I 0 39 (I 0 39 + 1), fun v τ hg => ?_, ht, by show I 0 39 + 1 = _; rw [h39, nI_1], fun q k _ a2 => lb_u_at a2⟩
      rw [← nI_1] at hg
      have q := rp_classes_117_1 (C := C) (v := v) (τ := τ) I J (nI i) (nI z) hge np
      rw [e1, c1] at q
      exact q (vp_in_nI (by omega) (by decide)) (by decide) (fun q => e ((kl_par hc hm1).mp q)) hg
theorem rs_cl30 {C : ij_R} : ∀ (r i c : Nat) (f : Nat → Nat) (I : Nat → Nat → Int32), i + r = p → c ≤ i → kl_c p cs o I → I 0 39 = nI c → kl_t p f I → ∃ I' : Nat → Nat → Int32, rk_go C 22 (30, [some (.ref 0), some (.int (nI i)), none], [], (rk_R, I, J)) none (rk_R, I', J) ∧ kl_t p (kl_go p o r i c f).1 I' ∧ I' 0 39 = nI (kl_go p o r i c f).2 ∧ ∀ q k, q ≠ 22 → ¬ (q = 0 ∧ k = 39) → I' q k = I q k := by
  intro r
  induction r with
  | zero =>
    intro i c f I hi hci hc h39 ht
    have : i = p := by omega
    subst this
    exact ⟨I, rp_classes_30_0 I J _ (by rw [hc.2.1]; exact nI_le (Nat.le_refl i) (by have := hc.1; omega)), ht, h39, fun _ _ _ _ => rfl⟩
  | succ r ih =>
    intro i c f I hi hci hc h39 ht
    obtain ⟨p3, p8⟩ := hc.1
    have hge : ¬ I 0 1 ≤ nI i := by rw [hc.2.1]; exact nI_ge (by omega) (by omega)
    have cl : (nI i).toNatClampNeg = i := nI_clamp (by omega)
    obtain ⟨t1, t2⟩ := ht i (by omega)
    have vi : vp_in (nI i) 8 := vp_in_nI (by omega) (by decide)
    by_cases e : f i = 9
    · have ef : kl_go p o (r + 1) i c f = kl_go p o r (i + 1) (c + 1) (kl_bw p o i c (p - 1) 1 (kl_fw p o i c (p - 1) 1 (kl_u f i c))) := by
        show (if _ then _ else _) = _
        rw [if_pos e]
      rw [ef]
      obtain ⟨I1, a1, a2, a3⟩ := rs_cl63 (J := J) (C := C) (i := i) (c := c) (by omega) (by omega) (p - 1) 1 (kl_u f i c) (ij_u I 22 i (nI c)) (by omega) (Nat.le_refl 1) (kl_c_fr (fun q k a1 _ => lb_u_at (fun z => a1 z.1)) hc) h39 (kl_t_u (by omega) ht)
      have fr1 : ∀ q k, q ≠ 22 → I1 q k = I q k := fun q k hq => by rw [a3 q hq, ij_u_ne hq]
      obtain ⟨I2, b1, b2, b3, b4⟩ := rs_cl117 (J := J) (C := C) (i := i) (c := c) (by omega) (by omega) (p - 1) 1 _ I1 (by omega) (Nat.le_refl 1) (kl_c_fr (fun q k a1 _ => fr1 q k a1) hc) ((fr1 0 39 (by decide)).trans h39) a2
      have fr2 : ∀ q k, q ≠ 22 → ¬ (q = 0 ∧ k = 39) → I2 q k = I q k := fun q k x1 x2 => (b4 q k x1 x2).trans (fr1 q k x1)
      obtain ⟨I', k1, k2, k3, k4⟩ := ih (i + 1) (c + 1) _ I2 (by omega) (by omega) (kl_c_fr fr2 hc) b3 b2
      refine ⟨I', ?_, k2, k3, fun q k x1 x2 => (k4 q k x1 x2).trans (fr2 q k x1 x2)⟩
      have q := rp_classes_30_1 (C := C) (v := none) (τ := (rk_R, I', J)) I J (nI i) hge vi
      rw [cl, h39] at q
      exact q (t1.trans ((cb_e_m1 t2).mpr e)) vi (a1 _ _ (b1 _ _ k1))
    · have ef : kl_go p o (r + 1) i c f = kl_go p o r (i + 1) c f := by
        show (if _ then _ else _) = _
        rw [if_neg e]
      rw [ef]
      obtain ⟨I', k1, k2, k3, k4⟩ := ih (i + 1) c f I (by omega) (by omega) hc h39 ht
      rw [← nI_1] at k1
      exact ⟨I', rp_classes_30_2 I J _ hge vi (by rw [cl, t1]; exact fun q => e ((cb_e_m1 t2).mp q)) k1, k2, k3, k4⟩
theorem rs_cl7 {C : ij_R} : ∀ (r i : Nat) (I : Nat → Nat → Int32), i + r = p → kl_c p cs o I → (∀ j, j < i → I 22 j = -1) → ∃ I' : Nat → Nat → Int32, (∀ v τ, rk_go C 22 (30, [some (.ref 0), some (.int 0), none], [], (rk_R, I', J)) v τ → rk_go C 22 (7, [some (.ref 0), some (.int (nI i)), none], [], (rk_R, I, J)) v τ) ∧ (∀ j, j < p → I' 22 j = -1) ∧ ∀ q, q ≠ 22 → I' q = I q := by
  intro r
  induction r with
  | zero =>
    intro i I hi hc h
    have : i = p := by omega
    subst this
    exact ⟨I, fun v τ hg => rp_classes_7_0 I J _ (by rw [hc.2.1]; exact nI_le (Nat.le_refl i) (by have := hc.1; omega)) hg, h, fun _ _ => rfl⟩
  | succ r ih =>
    intro i I hi hc h
    obtain ⟨p3, p8⟩ := hc.1
    obtain ⟨I', k1, k2, k3⟩ := ih (i + 1) (ij_u I 22 i (-1)) (by omega) (kl_c_fr (fun q k a1 _ => lb_u_at (fun z => a1 z.1)) hc) (fun j hj => by
      by_cases e : j = i
      · subst e; exact ij_u_same _ _ _ _
      · rw [ij_u_other _ _ _ _ e]; exact h j (by omega))
    refine ⟨I', fun v τ hg => ?_, k2, fun q hq => (k3 q hq).trans (ij_u_ne hq)⟩
    have q := rp_classes_7_1 (C := C) (v := v) (τ := τ) I J (nI i) (by rw [hc.2.1]; exact nI_ge (by omega) (by omega)) (vp_in_nI (by omega) (by decide))
    rw [nI_clamp (by omega), nI_1] at q
    exact q (k1 v τ hg)
/-- the reference's classes -/
theorem rs_classes {I : Nat → Nat → Int32} (hc : kl_c p cs o I) : ∃ I' : Nat → Nat → Int32, rk_call (d + 1) 22 [.ref 0] (rk_R, I, J) none (rk_R, I', J) ∧ kl_t p (kl_go p o p 0 0 (fun _ => 9)).1 I' ∧ I' 0 39 = nI (kl_go p o p 0 0 (fun _ => 9)).2 ∧ ∀ q k, q ≠ 22 → ¬ (q = 0 ∧ k = 39) → I' q k = I q k := by
  obtain ⟨I1, a1, a2, a3⟩ := rs_cl7 (J := J) (C := rk_call d) (o := o) (cs := cs) p 0 (ij_u I 0 39 0) (Nat.zero_add p) (kl_c_fr (fun q k _ a2 => lb_u_at a2) hc) (fun j hj => absurd hj (Nat.not_lt_zero j))
  have fr1 : ∀ q k, q ≠ 22 → ¬ (q = 0 ∧ k = 39) → I1 q k = I q k := fun q k x1 x2 => by rw [a3 q x1]; exact lb_u_at x2
  obtain ⟨I', k1, k2, k3, k4⟩ := rs_cl30 (J := J) (C := rk_call d) (o := o) (cs := cs) p 0 0 (fun _ => 9) I1 (Nat.zero_add p) (Nat.le_refl 0) (kl_c_fr fr1 hc) (by rw [a3 0 (by decide)]; rfl) (fun j hj => ⟨a2 j hj, by show 9 < 10; decide⟩)
  exact ⟨I', ij_cr_of (Nat.le_of_ble_eq_true rfl) (rp_classes_0_0 I J (a1 _ _ k1)), k2, k3, fun q k x1 x2 => (k4 q k x1 x2).trans (fr1 q k x1 x2)⟩
end KL1
