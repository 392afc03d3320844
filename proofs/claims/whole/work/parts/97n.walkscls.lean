/-! ===== walks, counted: the class ===== -/
theorem wE_not (b : Bool) : wE (!b) = wS b := by cases b <;> rfl
theorem wS_not (b : Bool) : wS (!b) = wE b := by cases b <;> rfl
theorem wE_ne (b : Bool) : wE b ≠ wS b := by cases b <;> decide
section WX
variable {X : ij_R} {d p T : Nat} {b : Bool} {I : Nat → Nat → Int32} {C : ij_R} {rg : Nat → Nat}
theorem lx_endsAt (J : Nat → Nat → Int64) {t : Nat} (ht : t < 2000) : lk_cx1 X (d + 1) 108 [.ref 19, .int (nI t)] (xk_R b, I, J) (some (.long (J (wE b) t))) (xk_R b, I, J) := by
  have q := xb_endsAt_0_2 (C := ik_cr xk_P xk_M xk_Y xk_K X d) (b := b) I J (nI t) (nI_pos (by omega)) (by decide) (nI_ge ht (by decide)) (vp_in_nI ht (by decide))
  rw [nI_clamp (by omega)] at q
  exact ik_cr_of (Nat.le_of_ble_eq_true rfl) q
theorem lx_endsAt_n (J : Nat → Nat → Int64) : lk_cx1 X (d + 1) 108 [.ref 19, .int (-1)] (xk_R b, I, J) (some (.long 0)) (xk_R b, I, J) :=
  ik_cr_of (Nat.le_of_ble_eq_true rfl) (xb_endsAt_0_0 I J (-1) (by decide))
/-- a row of 2000 longs filled -/
theorem lx_fill20 (z : Int64) : ∀ (r k : Nat) (J : Nat → Nat → Int64), k + r = 2000 → xk_go C 151 (6, [some (.ref 20), some (.long z), none, some (.int (nI k)), some (.int 2000)], [], (xk_R b, I, J)) none (xk_R b, I, gt_w 20 (fun _ => z) r k J) := by
  intro r
  induction r with
  | zero =>
    intro k J hk
    have : k = 2000 := by omega
    subst this
    exact xp_J7_fill_d0a16_20_6_0 I J (nI 2000) 2000 z (by decide)
  | succ r ih =>
    intro k J hk
    have q := xp_J7_fill_d0a16_20_6_1 (C := C) (b := b) (v := none) (τ := (xk_R b, I, gt_w 20 (fun _ => z) (r + 1) k J)) I J (nI k) 2000 z (nI_ge (b := 2000) (a := k) (by omega) (by omega)) (vp_in_nI (by omega) (by decide))
    rw [nI_clamp (by omega), nI_1] at q
    exact q (ih (k + 1) _ (by omega))
theorem lx_fill21 (z : Int64) : ∀ (r k : Nat) (J : Nat → Nat → Int64), k + r = 2000 → xk_go C 151 (6, [some (.ref 21), some (.long z), none, some (.int (nI k)), some (.int 2000)], [], (xk_R b, I, J)) none (xk_R b, I, gt_w 21 (fun _ => z) r k J) := by
  intro r
  induction r with
  | zero =>
    intro k J hk
    have : k = 2000 := by omega
    subst this
    exact xp_J7_fill_d0a16_21_6_0 I J (nI 2000) 2000 z (by decide)
  | succ r ih =>
    intro k J hk
    have q := xp_J7_fill_d0a16_21_6_1 (C := C) (b := b) (v := none) (τ := (xk_R b, I, gt_w 21 (fun _ => z) (r + 1) k J)) I J (nI k) 2000 z (nI_ge (b := 2000) (a := k) (by omega) (by omega)) (vp_in_nI (by omega) (by decide))
    rw [nI_clamp (by omega), nI_1] at q
    exact q (ih (k + 1) _ (by omega))
theorem lx_fillE {c : Bool} (J : Nat → Nat → Int64) : lk_cx1 X (d + 1) 151 [.ref (wE c), .long 0] (xk_R b, I, J) none (xk_R b, I, gt_w (wE c) (fun _ => 0) 2000 0 J) := by
  cases c with
  | false => exact ik_cr_of (Nat.le_of_ble_eq_true rfl) (xp_J7_fill_d0a16_20_0_0 I J 0 (by decide) (lx_fill20 0 2000 0 J rfl))
  | true => exact ik_cr_of (Nat.le_of_ble_eq_true rfl) (xp_J7_fill_d0a16_21_0_0 I J 0 (by decide) (lx_fill21 0 2000 0 J rfl))
theorem lx_fillS {c : Bool} (J : Nat → Nat → Int64) : lk_cx1 X (d + 1) 151 [.ref (wS c), .long 0] (xk_R b, I, J) none (xk_R b, I, gt_w (wS c) (fun _ => 0) 2000 0 J) := by
  rw [← wE_not]
  exact lx_fillE J
/-- one tile's sum, from side s on -/
theorem lx_one_42 {x : Int32} {t : Nat} {g : Nat → Nat} {J : Nat → Nat → Int64} (hp : p ≤ 8) (hT : T ≤ 2000) (ht : t < T) (h8 : I 6 8 = nI p) (h9 : I 6 9 = nI T) (hac : lr_acr p T (I 9)) (hJ : ∀ i, i < T → J (wE b) i = lN (g i)) {v : Option Value} {τ : ij_S} (hg : xk_go (ik_cr xk_P xk_M xk_Y xk_K X (d + 1)) 110 (2, [some (.ref 19), some (.int x), some (.int (nI (t + 1))), none, none, none], [], (xk_R b, I, ij_u J (wS b) t (lN (wA p (I 9) g t)))) v τ) : ∀ (r s : Nat), s + r = p → xk_go (ik_cr xk_P xk_M xk_Y xk_K X (d + 1)) 110 (42, [some (.ref 19), some (.int x), some (.int (nI t)), some (.long (lN (sm (fun s => wv g (I 9 (8 * t + s))) s))), none, some (.int (nI s))], [], (xk_R b, I, J)) v τ := by
  intro r
  induction r with
  | zero =>
    intro s hs
    have : s = p := by omega
    subst this
    rw [← nI_1] at hg
    have q := xb_walkOneMore_42_0 (C := ik_cr xk_P xk_M xk_Y xk_K X (d + 1)) (v := v) (τ := τ) (b := b) I J x (nI t) (nI s) (lN (wA s (I 9) g t)) (by rw [h8]; exact nI_le (Nat.le_refl s) (by omega)) (vp_in_nI (by omega) (by decide))
    rw [nI_clamp (by omega)] at q
    exact q hg
  | succ r ih =>
    intro s hs
    have k := ih (s + 1) (by omega)
    rw [← nI_1] at k
    have hge : ¬ I 6 8 ≤ nI s := by rw [h8]; exact nI_ge (by omega) (by omega)
    refine xb_walkOneMore_42_1 I J x (nI t) (nI s) _ _ hge (lx_beyond hp hT h8 h9 ht (by omega)) ?_
    rcases hac t s ht (by omega) with e | ⟨u, hu, e⟩
    · rw [e]
      refine xb_walkOneMore_66_0 I J x (nI t) (nI s) (-1) _ 0 (lx_endsAt_n J) (xb_walkOneMore_69_0 I J x (nI t) (nI s) _ _ ?_)
      have : lN (sm (fun s => wv g (I 9 (8 * t + s))) s) + 0 = lN (sm (fun s => wv g (I 9 (8 * t + s))) (s + 1)) := by
        show lN _ + lN 0 = lN (sm _ s + wv g (I 9 (8 * t + s)))
        rw [lN_add, show wv g (I 9 (8 * t + s)) = 0 by unfold wv; rw [if_pos e]]
      rw [this]
      exact k
    · rw [e]
      refine xb_walkOneMore_66_0 I J x (nI t) (nI s) (nI u) _ _ (lx_endsAt J (by omega)) (xb_walkOneMore_69_0 I J x (nI t) (nI s) _ _ ?_)
      have : lN (sm (fun s => wv g (I 9 (8 * t + s))) s) + J (wE b) u = lN (sm (fun s => wv g (I 9 (8 * t + s))) (s + 1)) := by
        show lN _ + _ = lN (sm _ s + wv g (I 9 (8 * t + s)))
        rw [hJ u hu, lN_add, show wv g (I 9 (8 * t + s)) = g u by unfold wv; rw [e, if_neg (nI_ne_m1 (by omega)), nI_clamp (by omega)]]
      rw [this]
      exact k
/-- the tiles, from t on, up to ring m -/
theorem lx_one_2 {m : Nat} {g : Nat → Nat} (hp : p ≤ 8) (hT : T ≤ 2000) (hm : m < 1000) (h8 : I 6 8 = nI p) (h9 : I 6 9 = nI T) (hac : lr_acr p T (I 9)) (h10 : ∀ t, t < T → I 10 t = nI (rg t)) (hr : lw_rg p T (I 9) rg) : ∀ (r t : Nat) (J : Nat → Nat → Int64), t + r = T → (∀ i, i < T → J (wE b) i = lN (g i)) → ∃ J' : Nat → Nat → Int64, xk_go (ik_cr xk_P xk_M xk_Y xk_K X (d + 1)) 110 (2, [some (.ref 19), some (.int (nI m)), some (.int (nI t)), none, none, none], [], (xk_R b, I, J)) none (xk_R (!b), I, J') ∧ (∀ i, i < T → J' (wS b) i = if t ≤ i ∧ rg i ≤ m then lN (wA p (I 9) g i) else J (wS b) i) ∧ ∀ q, q ≠ wS b → J' q = J q := by
  intro r
  induction r with
  | zero =>
    intro t J ht hJ
    have : t = T := by omega
    subst this
    exact ⟨J, xb_walkOneMore_2_0 I J (nI m) (nI t) (by rw [h9]; exact nI_le (Nat.le_refl t) (by omega)), fun i hi => by rw [if_neg (by omega)], fun _ _ => rfl⟩
  | succ r ih =>
    intro t J ht hJ
    have hge : ¬ I 6 9 ≤ nI t := by rw [h9]; exact nI_ge (by omega) (by omega)
    have h64 := hr.2.1 t (by omega)
    have hring := lx_ringOf (X := X) (d := d) (b := b) (I := I) (J := J) (a := t) (by omega)
    rw [h10 t (by omega)] at hring
    by_cases hc : rg t ≤ m
    · obtain ⟨J', g1, g2, g3⟩ := ih (t + 1) (ij_u J (wS b) t (lN (wA p (I 9) g t))) (by omega) (fun i hi => by rw [ij_u_ne (wE_ne b)]; exact hJ i hi)
      refine ⟨J', ?_, ?_, fun q hq => (g3 q hq).trans (ij_u_ne hq)⟩
      · refine xb_walkOneMore_2_2 I J (nI m) (nI t) _ hge (by decide) (nI_ge (b := 2000) (a := t) (by omega) (by omega)) hring (xb_walkOneMore_30_0 I J (nI m) (nI t) _ (nI_le hc (by omega)) ?_)
        exact lx_one_42 hp hT (by omega) h8 h9 hac hJ g1 p 0 (Nat.zero_add p)
      · intro i hi
        rw [g2 i hi]
        by_cases e : i = t
        · subst e
          rw [if_neg (by omega), if_pos (by omega), ij_u_same]
        · rw [ij_u_other _ _ _ _ e]
          by_cases h : t + 1 ≤ i ∧ rg i ≤ m
          · rw [if_pos h, if_pos (by omega)]
          · rw [if_neg h, if_neg (by omega)]
    · refine ⟨J, xb_walkOneMore_2_2 I J (nI m) (nI t) _ hge (by decide) (nI_ge (b := 2000) (a := t) (by omega) (by omega)) hring (xb_walkOneMore_30_1 I J (nI m) (nI t) _ (nI_ge (by omega) (by omega))), ?_, fun _ _ => rfl⟩
      intro i hi
      rw [if_neg (fun h => by have := hr.2.2.1 t i h.1 hi; omega)]
end WX
/-- the walker's rows of k steps -/
def lw_at (p T : Nat) (rg : Nat → Nat) (b : Bool) (I : Nat → Nat → Int32) (J : Nat → Nat → Int64) (k : Nat) : Prop := I 19 3 = nI k ∧ (∀ t, t < T → J (wE b) t = lN (ww p (I 9) k t)) ∧ ∀ t, t < T → k < rg t + 1 → J (wS b) t = 0
/-- what the walker knows -/
def lw_tie (p T : Nat) (rg : Nat → Nat) (b : Bool) (I : Nat → Nat → Int32) (J : Nat → Nat → Int64) : Prop := I 19 3 = -1 ∨ ∃ k, k ≤ 16 ∧ lw_at p T rg b I J k
/-- the board as walks see it -/
def lw_base (p T M : Nat) (rg : Nat → Nat) (I I2 : Nat → Nat → Int32) : Prop := I 6 8 = nI p ∧ I2 0 1 = nI p ∧ I 6 9 = nI T ∧ I2 0 21 = nI T ∧ I 6 10 = nI M ∧ I2 0 22 = nI M ∧ p ≤ 8 ∧ 0 < p ∧ T ≤ 2000 ∧ 0 < T ∧ M < 64 ∧ lw_sym p T (I 9) ∧ (∀ a s, a < T → s < p → I2 7 (8 * a + s) = I 9 (8 * a + s)) ∧ (∀ t, t < T → I 10 t = nI (rg t) ∧ I2 8 t = nI (rg t)) ∧ lw_rg p T (I 9) rg
section WX2
variable {X : ij_R} {d p T M : Nat} {I2 : Nat → Nat → Int32} {rg : Nat → Nat}
theorem lx_walkTo {n : Nat} (hn : n ≤ 16) (b : Bool) (I : Nat → Nat → Int32) (J : Nat → Nat → Int64) (hb : lw_base p T M rg I I2) (ht : lw_tie p T rg b I J) : ∃ b' I' J', lk_cx1 X (d + 3) 109 [.ref 19, .int (nI n)] (xk_R b, I, J) none (xk_R b', I', J') ∧ lw_at p T rg b' I' J' n ∧ (∀ p k, ¬ (p = 19 ∧ k = 3) → I' p k = I p k) ∧ ∀ q, q ≠ 20 → q ≠ 21 → J' q = J q := by
  obtain ⟨b1, b2, b3, b4, b5, b6, b7, b7', b8, b9, b10, b11, b12, b13, b14⟩ := hb
  have hSE : ∀ (b : Bool) q, q ≠ 20 → q ≠ 21 → q ≠ wE b ∧ q ≠ wS b := fun b q h1 h2 => by cases b <;> exact ⟨by assumption, by assumption⟩
  have key : ∀ (r k : Nat) (b : Bool) (I1 : Nat → Nat → Int32) (J1 : Nat → Nat → Int64), k + r = n → (∀ p k, ¬ (p = 19 ∧ k = 3) → I1 p k = I p k) → lw_at p T rg b I1 J1 k → ∃ b' I' J', xk_go (ik_cr xk_P xk_M xk_Y xk_K X (d + 2)) 109 (44, [some (.ref 19), some (.int (nI n))], [], (xk_R b, I1, J1)) none (xk_R b', I', J') ∧ lw_at p T rg b' I' J' n ∧ (∀ p k, ¬ (p = 19 ∧ k = 3) → I' p k = I p k) ∧ ∀ q, q ≠ 20 → q ≠ 21 → J' q = J1 q := by
    intro r
    induction r with
    | zero =>
      intro k b I1 J1 hk hfr hat
      have : k = n := by omega
      subst this
      exact ⟨b, I1, J1, xb_walkTo_44_0 I1 J1 (nI k) (by rw [hat.1]; exact nI_le (Nat.le_refl k) (by omega)), hat, hfr, fun _ _ _ => rfl⟩
    | succ r ih =>
      intro k b I1 J1 hk hfr hat
      have e9 : I1 9 = I 9 := funext (fun i => hfr 9 i (by omega))
      have h9 : I1 6 9 = nI T := (hfr 6 9 (by omega)).trans b3
      have h8 : I1 6 8 = nI p := (hfr 6 8 (by omega)).trans b1
      obtain ⟨a1, a2, a3⟩ := hat
      obtain ⟨J2, c1, c2, c3⟩ := lx_one_2 (X := X) (d := d) (p := p) (T := T) (b := b) (I := I1) (rg := rg) (m := k + 1) (g := ww p (I1 9) k) b7 b8 (by omega) h8 h9 (by rw [e9]; exact b11.1) (fun t ht => (hfr 10 t (by omega)).trans (b13 t ht).1) (by rw [e9]; exact b14) T 0 J1 (Nat.zero_add T) a2
      have hat2 : lw_at p T rg (!b) (ij_u I1 19 3 (nI (k + 1))) J2 (k + 1) := by
        refine ⟨rfl, ?_, ?_⟩
        · intro t ht
          rw [wE_not, c2 t ht]
          by_cases hc : rg t ≤ k + 1
          · rw [if_pos ⟨Nat.zero_le t, hc⟩]
            rfl
          · rw [if_neg (fun h => hc h.2), a3 t ht (by omega)]
            have hz : ww p (I1 9) (k + 1) t = 0 := Classical.byContradiction (fun hne => by
              have := (ww_rg b8 (by rw [e9]; exact b11) (by rw [e9]; exact b14) (k + 1) t ht hne).1
              omega)
            show (0 : Int64) = lN (ww p (I1 9) (k + 1) t)
            rw [hz]
            rfl
        · intro t ht hc
          rw [wS_not, c3 (wE b) (wE_ne b), a2 t ht]
          have hz : ww p (I1 9) k t = 0 := Classical.byContradiction (fun hne => by
            have := (ww_rg b8 (by rw [e9]; exact b11) (by rw [e9]; exact b14) k t ht hne).1
            omega)
          rw [hz]
          rfl
      obtain ⟨b', I', J', g1, g2, g3, g4⟩ := ih (k + 1) (!b) (ij_u I1 19 3 (nI (k + 1))) J2 (by omega) (fun p k h => by
        rw [← hfr p k h]
        by_cases e : p = 19
        · subst e
          exact ij_u_other _ _ _ _ (fun e => h ⟨rfl, e⟩)
        · exact congrFun (ij_u_ne e) k) hat2
      have q1 := xb_walkTo_44_1 (C := ik_cr xk_P xk_M xk_Y xk_K X (d + 2)) (v := none) (τ := (xk_R b', I', J')) (b := b) I1 J1 (nI n) (b' := !b) (I' := I1) (J' := J2)
      have q2 := xb_walkTo_62_0 (C := ik_cr xk_P xk_M xk_Y xk_K X (d + 2)) (v := none) (τ := (xk_R b', I', J')) (b := !b) I1 J2 (nI n)
      rw [a1, nI_1] at q1 q2
      refine ⟨b', I', J', q1 (nI_ge (by omega) (by omega)) (ik_cr_of (Nat.le_of_ble_eq_true rfl) (xb_walkOneMore_0_0 I1 J1 (nI (k + 1)) c1)) (q2 g1), g2, g3, fun q h1 h2 => (g4 q h1 h2).trans (c3 q (hSE b q h1 h2).2)⟩
  -- from the beginning
  have anew : ∃ b' I' J', xk_go (ik_cr xk_P xk_M xk_Y xk_K X (d + 2)) 109 (24, [some (.ref 19), some (.int (nI n))], [], (xk_R b, I, gt_w (wE b) (fun _ => 0) 2000 0 J)) none (xk_R b', I', J') ∧ lw_at p T rg b' I' J' n ∧ (∀ p k, ¬ (p = 19 ∧ k = 3) → I' p k = I p k) ∧ ∀ q, q ≠ 20 → q ≠ 21 → J' q = J q := by
    have hat : lw_at p T rg b (ij_u I 19 3 0) (ij_u (gt_w (wS b) (fun _ => 0) 2000 0 (gt_w (wE b) (fun _ => 0) 2000 0 J)) (wE b) 0 1) 0 := by
      refine ⟨rfl, ?_, ?_⟩
      · intro t ht
        by_cases e : t = 0
        · subst e
          rw [ij_u_same]
          rfl
        · rw [ij_u_other _ _ _ _ e, gt_w_ne (wE_ne b), gt_w_at, if_pos (by omega), show ww p (ij_u I 19 3 0 9) 0 t = 0 from if_neg e]
          rfl
      · intro t ht _
        rw [ij_u_ne (Ne.symm (wE_ne b)), gt_w_at, if_pos (by omega)]
    obtain ⟨b', I', J', g1, g2, g3, g4⟩ := key n 0 b (ij_u I 19 3 0) _ (Nat.zero_add n) (fun p k h => by
      by_cases e : p = 19
      · subst e
        exact ij_u_other _ _ _ _ (fun e => h ⟨rfl, e⟩)
      · exact congrFun (ij_u_ne e) k) hat
    refine ⟨b', I', J', xb_walkTo_24_0 I _ (nI n) (lx_fillS _) (xb_walkTo_32_0 I _ (nI n) (vp_in_nI (n := 0) (by decide) (by decide)) g1), g2, g3, fun q h1 h2 => ?_⟩
    rw [g4 q h1 h2, ij_u_ne (hSE b q h1 h2).1, gt_w_ne (hSE b q h1 h2).2, gt_w_ne (hSE b q h1 h2).1]
  rcases ht with ht | ⟨k, hk, ht⟩
  · obtain ⟨b', I', J', g1, g2, g3, g4⟩ := anew
    exact ⟨b', I', J', ik_cr_of (Nat.le_of_ble_eq_true rfl) (xb_walkTo_0_0 I J (nI n) ht (lx_fillE J) g1), g2, g3, g4⟩
  · have hm : ¬ I 19 3 = -1 := by rw [ht.1]; exact nI_ne_m1 (by omega)
    by_cases hkn : k ≤ n
    · obtain ⟨b', I', J', g1, g2, g3, g4⟩ := key (n - k) k b I J (by omega) (fun _ _ _ => rfl) ht
      exact ⟨b', I', J', ik_cr_of (Nat.le_of_ble_eq_true rfl) (xb_walkTo_0_1 I J (nI n) hm (by rw [ht.1]; exact nI_le hkn (by omega)) g1), g2, g3, g4⟩
    · obtain ⟨b', I', J', g1, g2, g3, g4⟩ := anew
      exact ⟨b', I', J', ik_cr_of (Nat.le_of_ble_eq_true rfl) (xb_walkTo_0_2 I J (nI n) hm (by rw [ht.1]; exact nI_ge (by omega) (by omega)) (lx_fillE J) g1), g2, g3, g4⟩
end WX2
