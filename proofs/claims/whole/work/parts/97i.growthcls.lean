/-! ===== growth: the class; both answer alike ===== -/
section GX
variable {X : ij_R} {d : Nat} {b : Bool} {I : Nat → Nat → Int32} {C : ij_R} {v : Option Value} {τ : ij_S}
theorem lx_div_j {m k : Nat} (hk : k < 61) (hm : m < 100) : ∀ (r j : Nat) (J : Nat → Nat → Int64), 1 ≤ j → j + r = min m (k + 1) → xk_go C 94 (2, [some (.ref 15), some (.int (nI m)), some (.int (nI (k + 1))), none], [], (xk_R b, I, gt_j 18 k r j J)) v τ → xk_go C 94 (13, [some (.ref 15), some (.int (nI m)), some (.int (nI k)), some (.int (nI j))], [], (xk_R b, I, J)) v τ := by
  intro r
  induction r with
  | zero =>
    intro j J hj h hg
    rw [← nI_1] at hg
    by_cases hmj : m ≤ j
    · exact xp_X6_dividePartByOnes_13_0 I J (nI m) (nI k) (nI j) (nI_le hmj (by omega)) hg
    · exact xp_X6_dividePartByOnes_13_1 I J (nI m) (nI k) (nI j) (nI_ge (by omega) (by omega)) (nI_lt (by omega) (by omega)) hg
  | succ r ih =>
    intro j J hj h hg
    have g := ih (j + 1) (ij_u J 18 k (J 18 k - J 18 (k - j))) (by omega) (by omega) hg
    have q := xp_X6_dividePartByOnes_13_2 (C := C) (v := v) (τ := τ) (b := b) I J (nI m) (nI k) (nI j) (nI_ge (by omega) (by omega)) (nI_nlt (by omega) (by omega))
    rw [pk_sub (show j ≤ k by omega), nI_clamp (show k < 2 ^ 31 by omega), nI_clamp (show k - j < 2 ^ 31 by omega), nI_1] at q
    exact q (vp_in_nI hk (by decide)) (vp_in_nI (by omega) (by decide)) (vp_in_nI hk (by decide)) g
theorem lx_div_k {m : Nat} (hm1 : 1 ≤ m) (hm : m < 100) : ∀ (r k : Nat) (J : Nat → Nat → Int64), k + r = 61 → xk_go C 94 (2, [some (.ref 15), some (.int (nI m)), some (.int (nI k)), none], [], (xk_R b, I, J)) none (xk_R b, I, gt_k 18 m r k J) := by
  intro r
  induction r with
  | zero =>
    intro k J hk
    have : k = 61 := by omega
    subst this
    exact xp_X6_dividePartByOnes_2_0 I J (nI m) (nI 61) (by decide) (by decide)
  | succ r ih =>
    intro k J hk
    exact xp_X6_dividePartByOnes_2_1 I J (nI m) (nI k) (by decide) (nI_ge (b := 61) (a := k) (by omega) (by omega)) (lx_div_j (by omega) hm (min m (k + 1) - 1) 1 J (Nat.le_refl 1) (by omega) (ih (k + 1) _ (by omega)))
theorem lx_div {m : Nat} (J : Nat → Nat → Int64) (hm1 : 1 ≤ m) (hm : m < 100) : lk_cx1 X (d + 1) 94 [.ref 15, .int (nI m)] (xk_R b, I, J) none (xk_R b, I, gt_k 18 m 61 0 J) :=
  ik_cr_of (Nat.le_of_ble_eq_true rfl) (xp_X6_dividePartByOnes_0_0 I J (nI m) (lx_div_k hm1 hm 61 0 J rfl))
theorem lx_beginDiv_9 {p : Nat} : ∀ (r k : Nat) (J : Nat → Nat → Int64), 1 ≤ k → k + r = 61 → xk_go C 92 (9, [some (.ref 15), some (.int (nI p)), some (.int (nI k))], [], (xk_R b, I, J)) none (xk_R b, I, gt_w 17 (fun k => if k % 2 = 1 then (-(nI p)).toInt64 else (nI p).toInt64) r k J) := by
  intro r
  induction r with
  | zero =>
    intro k J h1 hk
    have : k = 61 := by omega
    subst this
    exact xp_X6_beginDivisor_9_0 I J (nI p) (nI 61) (by decide) (by decide)
  | succ r ih =>
    intro k J h1 hk
    have h61 : ¬ (61 : Int32) ≤ nI k := nI_ge (b := 61) (a := k) (by omega) (by omega)
    have hv : vp_in (nI k) 61 := vp_in_nI (by omega) (by decide)
    have e1 : nI k &&& 1 = nI (k % 2) := pk_andN (n := k) (by omega) (m := 1) 1 (by decide)
    have g := ih (k + 1) (ij_u J 17 k (if k % 2 = 1 then (-(nI p)).toInt64 else (nI p).toInt64)) (by omega) (by omega)
    by_cases ho : k % 2 = 1
    · have q := xp_X6_beginDivisor_9_2 (C := C) (b := b) (v := none) (τ := (xk_R b, I, gt_w 17 (fun k => if k % 2 = 1 then (-(nI p)).toInt64 else (nI p).toInt64) (r + 1) k J)) I J (nI p) (nI k) (by decide) h61 (by rw [e1, ho]; rfl) hv
      rw [nI_clamp (by omega), nI_1] at q
      rw [if_pos ho] at g
      exact q (by
        show xk_go _ _ _ _ (_, _, gt_w 17 _ r (k + 1) (ij_u J 17 k (if k % 2 = 1 then (-(nI p)).toInt64 else (nI p).toInt64)))
        rw [if_pos ho]
        exact g)
    · have q := xp_X6_beginDivisor_9_1 (C := C) (b := b) (v := none) (τ := (xk_R b, I, gt_w 17 (fun k => if k % 2 = 1 then (-(nI p)).toInt64 else (nI p).toInt64) (r + 1) k J)) I J (nI p) (nI k) (by decide) h61 (by rw [e1, show k % 2 = 0 by omega]; decide) hv
      rw [nI_clamp (by omega), nI_1] at q
      rw [if_neg ho] at g
      exact q (by
        show xk_go _ _ _ _ (_, _, gt_w 17 _ r (k + 1) (ij_u J 17 k (if k % 2 = 1 then (-(nI p)).toInt64 else (nI p).toInt64)))
        rw [if_neg ho]
        exact g)
theorem lx_beginDiv {p : Nat} (cr : Nat → Nat) (J : Nat → Nat → Int64) : ∃ J', lk_cx1 X (d + 1) 92 [.ref 15, .int (nI p)] (xk_R b, I, J) none (xk_R b, I, J') ∧ ge (J' 17) (gp_D p cr 0) ∧ ∀ q, q ≠ 17 → J' q = J q := by
  refine ⟨_, ik_cr_of (Nat.le_of_ble_eq_true rfl) (xp_X6_beginDivisor_0_0 I J (nI p) (vp_in_nI (n := 0) (by decide) (by decide)) (lx_beginDiv_9 60 1 _ (by decide) rfl)), ?_, ?_⟩
  · intro k hk
    rw [gt_w_at]
    show _ = if k = 0 then 1 else if k % 2 = 1 then (-(nI p)).toInt64 else (nI p).toInt64
    by_cases e : k = 0
    · subst e
      rw [if_neg (by omega), if_pos rfl]
      exact ij_u_same _ _ _ _
    · rw [if_pos (by omega), if_neg e]
  · intro q hq
    exact (gt_w_ne hq _ _ _).trans (ij_u_ne hq)
theorem lx_addC_2 {m : Nat} (hm : m < 100) {J' : Nat → Nat → Int64} : ∀ (r k : Nat) (J : Nat → Nat → Int64), k + r = 61 → C 94 [.ref 15, .int 2] (xk_R b, I, gt_w 18 (fun k => if k = m then 1 else 0) r k J) none (xk_R b, I, J') → xk_go C 93 (38, [some (.ref 15), some (.int (nI m)), none], [], (xk_R b, I, J')) v τ → xk_go C 93 (2, [some (.ref 15), some (.int (nI m)), some (.int (nI k))], [], (xk_R b, I, J)) v τ := by
  intro r
  induction r with
  | zero =>
    intro k J hk hcall hg
    have : k = 61 := by omega
    subst this
    exact xp_X6_addCorner_2_0 I J (nI m) (nI 61) (by decide) (by decide) hcall hg
  | succ r ih =>
    intro k J hk hcall hg
    have hv : vp_in (nI k) 61 := vp_in_nI (by omega) (by decide)
    have h61 : ¬ (61 : Int32) ≤ nI k := nI_ge (b := 61) (a := k) (by omega) (by omega)
    have g := ih (k + 1) _ (by omega) hcall hg
    by_cases e : k = m
    · have q := xp_X6_addCorner_2_2 (C := C) (v := v) (τ := τ) (b := b) I J (nI m) (nI k) (by decide) h61 (by rw [e]) hv
      rw [nI_clamp (show k < 2 ^ 31 by omega), nI_1] at q
      simp only [if_pos e] at g
      exact q g
    · have q := xp_X6_addCorner_2_1 (C := C) (v := v) (τ := τ) (b := b) I J (nI m) (nI k) (by decide) h61 (fun z => e ((nI_eq (by omega) (by omega)).mp z)) hv
      rw [nI_clamp (show k < 2 ^ 31 by omega), nI_1] at q
      simp only [if_neg e] at g
      exact q g
theorem lx_addC_45 : ∀ (r k : Nat) (J : Nat → Nat → Int64), k + r = 61 → xk_go C 93 (45, [some (.ref 15), none, some (.int (nI k))], [], (xk_R b, I, J)) none (xk_R b, I, gt_a 17 18 r k J) := by
  intro r
  induction r with
  | zero =>
    intro k J hk
    have : k = 61 := by omega
    subst this
    exact xp_X6_addCorner_45_0 I J (nI 61) (by decide) (by decide)
  | succ r ih =>
    intro k J hk
    have hv : vp_in (nI k) 61 := vp_in_nI (by omega) (by decide)
    have h61 : ¬ (61 : Int32) ≤ nI k := nI_ge (b := 61) (a := k) (by omega) (by omega)
    have g := ih (k + 1) (ij_u J 17 k (J 17 k + J 18 k)) (by omega)
    have q := xp_X6_addCorner_45_2 (C := C) (b := b) (v := none) (τ := (xk_R b, I, gt_a 17 18 r (k + 1) (ij_u J 17 k (J 17 k + J 18 k)))) I J (nI k) (by decide) h61 (by decide) h61 hv hv hv
    rw [nI_clamp (by omega), nI_1] at q
    exact q g
theorem lx_addC {m : Nat} (J : Nat → Nat → Int64) (hm1 : 1 ≤ m) (hm : m < 100) {f : Nat → Int64} (hf : ge (J 17) f) : ∃ J', lk_cx1 X (d + 2) 93 [.ref 15, .int (nI m)] (xk_R b, I, J) none (xk_R b, I, J') ∧ ge (J' 17) (gp_add f (gp_part m)) ∧ ∀ q, q ≠ 17 → q ≠ 18 → J' q = J q := by
  have hJ := lx_div (X := X) (d := d) (b := b) (I := I) (m := 2) (gt_w 18 (fun k => if k = m then 1 else 0) 61 0 J) (by decide) (by decide)
  have hJ2 := lx_div (X := X) (d := d) (b := b) (I := I) (m := m) (gt_k 18 2 61 0 (gt_w 18 (fun k => if k = m then 1 else 0) 61 0 J)) hm1 hm
  have hw : ge (gt_w 18 (fun k => if k = m then 1 else 0) 61 0 J 18) (fun k => if k = m then 1 else 0) := fun k hk => by
    rw [gt_w_at, if_pos (by omega)]
  have hpart := gp_part_of hw
  have h17 : gt_k 18 m 61 0 (gt_k 18 2 61 0 (gt_w 18 (fun k => if k = m then 1 else 0) 61 0 J)) 17 = J 17 := (gt_k_ne (by decide) _ _ _).trans ((gt_k_ne (by decide) _ _ _).trans (gt_w_ne (by decide) _ _ _))
  refine ⟨_, ik_cr_of (Nat.le_of_ble_eq_true rfl) (xp_X6_addCorner_0_0 I J (nI m) (lx_addC_2 hm 61 0 J rfl hJ (xp_X6_addCorner_38_0 I _ (nI m) hJ2 (xp_X6_addCorner_43_0 I _ (lx_addC_45 61 0 _ rfl))))), ?_, ?_⟩
  · intro k hk
    rw [gt_a_at (by decide), if_pos (by omega), hpart k hk, h17, hf k hk]
    rfl
  · intro q q1 q2
    exact (gt_a_ne q1 _ _ _).trans ((gt_k_ne q2 _ _ _).trans ((gt_k_ne q2 _ _ _).trans (gt_w_ne q2 _ _ _)))
/-- one term's sum -/
theorem lx_divide_37 {k : Nat} (hk : k < 61) {J : Nat → Nat → Int64} : ∀ (r j : Nat) (a : Int64), 1 ≤ j → j + r = k + 1 → xk_go C 95 (37, [some (.ref 15), some (.int (nI k)), some (.long (gp_acc (J 17) (J 16) k r j a)), none, some (.int (nI (k + 1)))], [], (xk_R b, I, J)) v τ → xk_go C 95 (37, [some (.ref 15), some (.int (nI k)), some (.long a), none, some (.int (nI j))], [], (xk_R b, I, J)) v τ := by
  intro r
  induction r with
  | zero =>
    intro j a hj h hg
    have : j = k + 1 := by omega
    subst this
    exact hg
  | succ r ih =>
    intro j a hj h hg
    have g := ih (j + 1) _ (by omega) (by omega) hg
    have q := xp_X6_divide_37_2 (C := C) (v := v) (τ := τ) (b := b) I J (nI k) (nI j) a (nI_nlt (by omega) (by omega))
    rw [pk_sub (show j ≤ k by omega), nI_clamp (show j < 2 ^ 31 by omega), nI_clamp (show k - j < 2 ^ 31 by omega), nI_1] at q
    exact q (vp_in_nI (by omega) (by decide)) (vp_in_nI (by omega) (by decide)) g
end GX
section GX2
variable {X : ij_R} {d : Nat} {b : Bool} {C : ij_R}
theorem lx_divide_14 {D : Nat → Int64} {K : Nat} (hK : gp_K D K) : ∀ (r k : Nat) (I : Nat → Nat → Int32) (J : Nat → Nat → Int64), k + r = 61 → 1 ≤ k → k ≤ K → ge (J 17) D → I 15 3 = nI k → (∀ i, i < k → J 16 i = gp_t D i i) → ∃ I' J', xk_go C 95 (14, [some (.ref 15), some (.int (nI k)), none, none, none], [], (xk_R b, I, J)) none (xk_R b, I', J') ∧ I' 15 3 = nI K ∧ (∀ i, i < K → J' 16 i = gp_t D i i) ∧ (∀ p k, ¬ (p = 15 ∧ k = 3) → I' p k = I p k) ∧ ∀ q, q ≠ 16 → J' q = J q := by
  intro r
  induction r with
  | zero =>
    intro k I J hk h1 hkK hD hI ht
    have : k = 61 := by omega
    subst this
    have : K = 61 := by have := hK.2.1; omega
    subst this
    exact ⟨I, J, xp_X6_divide_14_0 I J (nI 61) (by decide) (by decide), hI, ht, fun _ _ _ => rfl, fun _ _ => rfl⟩
  | succ r ih =>
    intro k I J hk h1 hkK hD hI ht
    have hK' := hK
    obtain ⟨K1, K2, K3, K4⟩ := hK'
    have h61 : ¬ (61 : Int32) ≤ nI k := nI_ge (b := 61) (a := k) (by omega) (by omega)
    have hlt : nI k < nI (k + 1) := nI_lt (by omega) (by omega)
    obtain ⟨k', rfl⟩ : ∃ k', k = k' + 1 := ⟨k - 1, by omega⟩
    have hs : gp_acc (J 17) (J 16) (k' + 1) (k' + 1) 1 0 = gp_t D (k' + 1) (k' + 1) := by
      show _ = (if k' + 1 = k' + 1 then gp_acc D (gp_t D k') (k' + 1) (k' + 1) 1 0 else _)
      rw [if_pos rfl]
      refine gp_acc_congr (by omega) hD (fun i hi => ?_) _ _ _ (by omega) (by omega)
      rw [ht i hi, gp_t_le (n := k') (k := i) (by omega)]
    by_cases hc : k' + 1 < K
    · obtain ⟨I', J', g1, g2, g3, g4, g5⟩ := ih (k' + 1 + 1) (ij_u I 15 3 (nI (k' + 1 + 1))) (ij_u J 16 (k' + 1) (gp_t D (k' + 1) (k' + 1))) (by omega) (by omega) (by omega) hD (ij_u_same _ _ _ _) (fun i hi => by
        by_cases e : i = k' + 1
        · subst e; exact ij_u_same _ _ _ _
        · rw [ij_u_other _ _ _ _ e]; exact ht i (by omega))
      refine ⟨I', J', ?_, g2, g3, ?_, ?_⟩
      · have q := xp_X6_divide_37_0 (C := C) (v := none) (τ := (xk_R b, I', J')) (b := b) I J (nI (k' + 1)) (nI (k' + 1 + 1)) (gp_t D (k' + 1) (k' + 1)) hlt (K3 _ hc) (vp_in_nI (by omega) (by decide))
        rw [nI_clamp (by omega), nI_1] at q
        refine xp_X6_divide_14_2 I J (nI (k' + 1)) (by decide) h61 (by decide) h61 (lx_divide_37 (k := k' + 1) (by omega) (k' + 1) 1 0 (by omega) (by omega) ?_)
        rw [hs]
        exact q g1
      · intro p k h
        rw [g4 p k h]
        by_cases e : p = 15
        · subst e
          exact ij_u_other _ _ _ _ (fun e => h ⟨rfl, e⟩)
        · exact congrFun (ij_u_ne e) k
      · intro q hq
        rw [g5 q hq]
        exact ij_u_ne hq
    · have e : k' + 1 = K := by omega
      refine ⟨I, J, ?_, by rw [← e]; exact hI, by rw [← e]; exact ht, fun _ _ _ => rfl, fun _ _ => rfl⟩
      refine xp_X6_divide_14_2 I J (nI (k' + 1)) (by decide) h61 (by decide) h61 (lx_divide_37 (k := k' + 1) (by omega) (k' + 1) 1 0 (by omega) (by omega) ?_)
      rw [hs]
      refine xp_X6_divide_37_1 I J (nI (k' + 1)) (nI (k' + 1 + 1)) _ hlt ?_
      have := K4 (by omega)
      rw [← e] at this
      exact this
theorem lx_divide {D : Nat → Int64} {K : Nat} (hK : gp_K D K) (I : Nat → Nat → Int32) (J : Nat → Nat → Int64) (hD : ge (J 17) D) : ∃ I' J', lk_cx1 X (d + 1) 95 [.ref 15] (xk_R b, I, J) none (xk_R b, I', J') ∧ I' 15 3 = nI K ∧ (∀ i, i < K → J' 16 i = gp_t D i i) ∧ (∀ p k, ¬ (p = 15 ∧ k = 3) → I' p k = I p k) ∧ ∀ q, q ≠ 16 → J' q = J q := by
  obtain ⟨I', J', g1, g2, g3, g4, g5⟩ := lx_divide_14 (C := ik_cr xk_P xk_M xk_Y xk_K X d) (b := b) hK 60 1 (ij_u I 15 3 1) (ij_u J 16 0 1) rfl (by decide) hK.1 hD rfl (fun i hi => by
    have : i = 0 := by omega
    subst this
    exact ij_u_same _ _ _ _)
  refine ⟨I', J', ik_cr_of (Nat.le_of_ble_eq_true rfl) (xp_X6_divide_0_0 I J (vp_in_nI (n := 0) (by decide) (by decide)) g1), g2, g3, ?_, ?_⟩
  · intro p k h
    rw [g4 p k h]
    by_cases e : p = 15
    · subst e
      exact ij_u_other _ _ _ _ (fun e => h ⟨rfl, e⟩)
    · exact congrFun (ij_u_ne e) k
  · intro q hq
    rw [g5 q hq]
    exact ij_u_ne hq
/-- the class's series of a board -/
theorem lx_reckon {p : Nat} {cr : Nat → Nat} (hp : p ≤ 8) (I : Nat → Nat → Int32) (J : Nat → Nat → Int64) (hcr : ∀ c, c < p → I 4 c = nI (cr c) ∧ cr c < 10) : ∃ I' J', lk_cx1 X (d + 3) 91 [.ref 15, .ref 4, .int (nI p)] (xk_R b, I, J) none (xk_R b, I', J') ∧ lr_grow p cr I' J' ∧ (∀ p k, ¬ (p = 15 ∧ k = 3) → I' p k = I p k) ∧ ∀ q, q ≠ 16 → q ≠ 17 → q ≠ 18 → J' q = J q := by
  obtain ⟨K, hK⟩ := gp_K_ex (gp_D p cr p)
  have key : ∀ (r n : Nat) (J : Nat → Nat → Int64), n + r = p → ge (J 17) (gp_D p cr n) → ∃ I' J', xk_go (ik_cr xk_P xk_M xk_Y xk_K X (d + 2)) 91 (7, [some (.ref 15), some (.ref 4), some (.int (nI p)), some (.int (nI n))], [], (xk_R b, I, J)) none (xk_R b, I', J') ∧ I' 15 3 = nI K ∧ (∀ i, i < K → J' 16 i = gp_t (gp_D p cr p) i i) ∧ (∀ p k, ¬ (p = 15 ∧ k = 3) → I' p k = I p k) ∧ ∀ q, q ≠ 16 → q ≠ 17 → q ≠ 18 → J' q = J q := by
    intro r
    induction r with
    | zero =>
      intro n J hn hD
      have : n = p := by omega
      subst this
      obtain ⟨I', J', g1, g2, g3, g4, g5⟩ := lx_divide (X := X) (d := d + 1) (b := b) hK I J hD
      exact ⟨I', J', xp_X6_reckon_4_7_0 I J (nI n) (nI n) (nI_le (Nat.le_refl n) (by omega)) g1 (xp_X6_reckon_4_41_0 I' J'), g2, g3, g4, fun q q1 _ _ => g5 q q1⟩
    | succ r ih =>
      intro n J hn hD
      have hge : ¬ nI p ≤ nI n := nI_ge (by omega) (by omega)
      have h8 : ¬ (8 : Int32) ≤ nI n := nI_ge (b := 8) (a := n) (by omega) (by omega)
      have hv : vp_in (nI n) 8 := vp_in_nI (by omega) (by decide)
      have cn : (nI n).toNatClampNeg = n := nI_clamp (by omega)
      obtain ⟨hc1, hc2⟩ := hcr n (by omega)
      by_cases e : cr n = 0
      · obtain ⟨I', J', g1, g2, g3, g4, g5⟩ := ih (n + 1) J (by omega) (by
          show ge (J 17) (if cr n = 0 then _ else _)
          rw [if_pos e]
          exact hD)
        rw [← nI_1] at g1
        exact ⟨I', J', xp_X6_reckon_4_7_2 I J (nI p) (nI n) hge (by decide) h8 hv (by rw [cn, hc1, e]; rfl) g1, g2, g3, g4, g5⟩
      · obtain ⟨J1, a1, a2, a3⟩ := lx_addC (X := X) (d := d) (b := b) (I := I) (m := cr n) J (by omega) (by omega) hD
        obtain ⟨I', J', g1, g2, g3, g4, g5⟩ := ih (n + 1) J1 (by omega) (by
          show ge (J1 17) (if cr n = 0 then _ else _)
          rw [if_neg e]
          exact a2)
        rw [← nI_1] at g1
        have q := xp_X6_reckon_4_7_3 (C := ik_cr xk_P xk_M xk_Y xk_K X (d + 2)) (b := b) (v := none) (τ := (xk_R b, I', J')) I J (nI p) (nI n) (b' := b) (I' := I) (J' := J1) hge (by decide) h8 hv
        rw [cn, hc1] at q
        exact ⟨I', J', q (nI_ne0 (by omega) (by omega)) hv a1 (xp_X6_reckon_4_31_0 I J1 (nI p) (nI n) g1), g2, g3, g4, fun q q1 q2 q3 => (g5 q q1 q2 q3).trans (a3 q q2 q3)⟩
  obtain ⟨J0, z1, z2, z3⟩ := lx_beginDiv (X := X) (d := d + 1) (b := b) (I := I) (p := p) cr J
  obtain ⟨I', J', g1, g2, g3, g4, g5⟩ := key p 0 J0 (Nat.zero_add p) z2
  exact ⟨I', J', ik_cr_of (Nat.le_of_ble_eq_true rfl) (xp_X6_reckon_4_0_0 I J (nI p) z1 (xp_X6_reckon_4_5_0 I J0 (nI p) g1)), ⟨K, g2, hK, g3⟩, g4, fun q q1 q2 q3 => (g5 q q1 q2 q3).trans (z3 q q2)⟩
end GX2
/-- a tie that doesn't look at the reference's rows for the series -/
def lk_gr (R : lk_Rl) : Prop := ∀ b I J I2 J2 J2', R b I J I2 J2 → (∀ q, q ≠ 24 → q ≠ 25 → q ≠ 26 → J2' q = J2 q) → R b I J I2 J2'
theorem lq_growth {X : ij_R} {d : Nat} {R : lk_Rl} (hf : lk_free R) (hg : lk_gr R) (h : ∀ b I J I2 J2, R b I J I2 J2 → ∃ p cr, p ≤ 8 ∧ I2 0 1 = nI p ∧ (∀ c, c < p → I2 1 c = nI (cr c) ∧ cr c < 10) ∧ lr_grow p cr I J) : lk_q_growth X (d + 2) R := by
  intro x b I J I2 J2 hR
  have hR0 := hf b I J I2 J2 0 hR
  by_cases hx : x < 0 ∨ 60 < x
  · refine Or.inr ⟨0, b, I, J, ij_u (ij_u I2 0 0 0) 0 0 1, J2, ?_, ?_, rfl, hf b I J _ J2 1 hR0⟩
    · refine lx_of (by decide) (Nat.le_of_ble_eq_true rfl) ?_
      by_cases h0 : x < 0
      · exact xp_X10_growth_0_0 I J x h0 (by decide)
      · exact xp_X10_growth_0_2 I J x h0 (Int32.not_le.mpr (hx.resolve_left h0)) (by decide)
    · refine ij_cr_of (Nat.le_of_ble_eq_true rfl) ?_
      have hr := rs_right (d + 1) (ij_u I2 0 0 0) J2 0 1 rfl (by decide)
      by_cases h0 : x < 0
      · exact rp_growth_0_0 I2 J2 x h0 0 hr (rp_growth_25_1 _ J2 x 0 rfl)
      · exact rp_growth_0_1 I2 J2 x h0 (hx.resolve_left h0) 0 hr (rp_growth_25_1 _ J2 x 0 rfl)
  · obtain ⟨N, hN, rfl⟩ := nI_of2 (M := 60) (n := 60) (by decide) (fun q => hx (Or.inl q)) (Int32.not_lt.mp (fun q => hx (Or.inr q)))
    have h0 : ¬ nI N < 0 := fun q => hx (Or.inl q)
    have h1 : ¬ (60 : Int32) < nI N := fun q => hx (Or.inr q)
    obtain ⟨p, cr, hp, hs, hcr, K, hIK, hK, hJ⟩ := h b I J I2 J2 hR
    obtain ⟨J', g1, g2⟩ := rs_growth (d := d + 1) (I := ij_u I2 0 0 0) (N := N) J2 hp hs hcr hN hK
    refine Or.inl ⟨if N < K then gp_t (gp_D p cr p) N N else -1, b, I, J, ij_u I2 0 0 0, J', ?_, ?_, rfl, hg b I J _ J2 J' hR0 g2⟩
    · refine lx_of (by decide) (Nat.le_of_ble_eq_true rfl) (xp_X10_growth_0_1 I J (nI N) _ h0 (Int32.not_lt.mp h1) (ik_cr_of (Nat.le_of_ble_eq_true rfl) ?_) (xp_X10_growth_26_0 I J _))
      by_cases hc : N < K
      · rw [if_pos hc, ← hJ N hc]
        have q := xp_X6_term_0_3 (C := ik_cr xk_P xk_M xk_Y xk_K X d) (b := b) I J (nI N) h0 (by rw [hIK]; exact nI_ge hc (by have := hK.2.1; omega)) (by decide) (nI_ge (b := 61) (a := N) (by omega) (by omega)) (vp_in_nI (by omega) (by decide))
        rw [nI_clamp (by omega)] at q
        exact q
      · rw [if_neg hc]
        exact xp_X6_term_0_1 I J (nI N) h0 (by rw [hIK]; exact nI_le (by omega) (by omega))
    · exact ij_cr_of (Nat.le_of_ble_eq_true rfl) (rp_growth_0_2 I2 J2 (nI N) h0 h1 1 (rs_right (d + 1) (ij_u I2 0 0 0) J2 1 1 rfl (by decide)) g1)
