/-! ===== growth: the reference ===== -/
/-- two rows written together -/
def gt_w2 (q q2 : Nat) (f f2 : Nat → Int64) : Nat → Nat → (Nat → Nat → Int64) → (Nat → Nat → Int64)
  | 0, _, J => J
  | r + 1, k, J => gt_w2 q q2 f f2 r (k + 1) (ij_u (ij_u J q k (f k)) q2 k (f2 k))
theorem gt_w2_at {q q2 : Nat} {f f2 : Nat → Int64} (h : q ≠ q2) : ∀ (r k : Nat) (J : Nat → Nat → Int64) (i : Nat), gt_w2 q q2 f f2 r k J q i = (if k ≤ i ∧ i < k + r then f i else J q i) ∧ gt_w2 q q2 f f2 r k J q2 i = (if k ≤ i ∧ i < k + r then f2 i else J q2 i) := by
  intro r
  induction r with
  | zero => intro k J i; rw [if_neg (by omega), if_neg (by omega)]; exact ⟨rfl, rfl⟩
  | succ r ih =>
    intro k J i
    show gt_w2 q q2 f f2 r (k + 1) (ij_u (ij_u J q k (f k)) q2 k (f2 k)) q i = _ ∧ gt_w2 q q2 f f2 r (k + 1) (ij_u (ij_u J q k (f k)) q2 k (f2 k)) q2 i = _
    rw [(ih (k + 1) _ i).1, (ih (k + 1) _ i).2, ij_u_ne h]
    by_cases e : i = k
    · subst e
      rw [if_neg (by omega), if_pos (by omega), if_neg (by omega), if_pos (by omega), ij_u_same, ij_u_same]
      exact ⟨rfl, rfl⟩
    · rw [ij_u_other _ _ _ _ e, ij_u_other _ _ _ _ e, ij_u_ne (Ne.symm h)]
      by_cases h' : k + 1 ≤ i ∧ i < k + 1 + r
      · rw [if_pos h', if_pos (by omega), if_pos h', if_pos (by omega)]
        exact ⟨rfl, rfl⟩
      · rw [if_neg h', if_neg (by omega), if_neg h', if_neg (by omega)]
        exact ⟨rfl, rfl⟩
theorem gt_w2_ne {q q2 q' : Nat} {f f2 : Nat → Int64} (h : q' ≠ q) (h2 : q' ≠ q2) : ∀ (r k : Nat) (J : Nat → Nat → Int64), gt_w2 q q2 f f2 r k J q' = J q' := by
  intro r
  induction r with
  | zero => intros; rfl
  | succ r ih => intro k J; exact (ih (k + 1) _).trans ((ij_u_ne h2).trans (ij_u_ne h))
section GR
variable {C : ij_R} {d : Nat} {I : Nat → Nat → Int32} {v : Option Value} {τ : ij_S}
theorem rs_div_j {m k : Nat} (hk : k < 61) (hm : m < 100) : ∀ (r j : Nat) (J : Nat → Nat → Int64), 1 ≤ j → j + r = min m (k + 1) → rk_go C 40 (2, [some (.ref 0), some (.int (nI m)), some (.int (nI (k + 1))), none], [], (rk_R, I, gt_j 25 k r j J)) v τ → rk_go C 40 (10, [some (.ref 0), some (.int (nI m)), some (.int (nI k)), some (.int (nI j))], [], (rk_R, I, J)) v τ := by
  intro r
  induction r with
  | zero =>
    intro j J hj h hg
    rw [← nI_1] at hg
    by_cases hmj : m ≤ j
    · exact rp_divides_10_0 I J (nI m) (nI k) (nI j) (nI_le hmj (by omega)) hg
    · exact rp_divides_10_1 I J (nI m) (nI k) (nI j) (nI_ge (by omega) (by omega)) (nI_lt (by omega) (by omega)) hg
  | succ r ih =>
    intro j J hj h hg
    have g := ih (j + 1) (ij_u J 25 k (J 25 k - J 25 (k - j))) (by omega) (by omega) hg
    have q := rp_divides_10_2 (C := C) (v := v) (τ := τ) I J (nI m) (nI k) (nI j) (nI_ge (by omega) (by omega)) (nI_nlt (by omega) (by omega))
    rw [pk_sub (show j ≤ k by omega), nI_clamp (show k < 2 ^ 31 by omega), nI_clamp (show k - j < 2 ^ 31 by omega), nI_1] at q
    exact q (vp_in_nI hk (by decide)) (vp_in_nI (by omega) (by decide)) (vp_in_nI hk (by decide)) g
theorem rs_div_k {m : Nat} (hm1 : 1 ≤ m) (hm : m < 100) : ∀ (r k : Nat) (J : Nat → Nat → Int64), k + r = 61 → rk_go C 40 (2, [some (.ref 0), some (.int (nI m)), some (.int (nI k)), none], [], (rk_R, I, J)) none (rk_R, I, gt_k 25 m r k J) := by
  intro r
  induction r with
  | zero =>
    intro k J hk
    have : k = 61 := by omega
    subst this
    exact rp_divides_2_0 I J (nI m) (nI 61) (by decide)
  | succ r ih =>
    intro k J hk
    exact rp_divides_2_1 I J (nI m) (nI k) (nI_nlt (a := 60) (b := k) (by omega) (by omega)) (rs_div_j (by omega) hm (min m (k + 1) - 1) 1 J (Nat.le_refl 1) (by omega) (ih (k + 1) _ (by omega)))
theorem rs_div {m : Nat} (J : Nat → Nat → Int64) (hm1 : 1 ≤ m) (hm : m < 100) : rk_call (d + 1) 40 [.ref 0, .int (nI m)] (rk_R, I, J) none (rk_R, I, gt_k 25 m 61 0 J) :=
  ij_cr_of (Nat.le_of_ble_eq_true rfl) (rp_divides_0_0 I J (nI m) (rs_div_k hm1 hm 61 0 J rfl))
/-- the first rows -/
theorem rs_gr_32 {p : Nat} (hp : I 0 1 = nI p) {x : Int32} : ∀ (r k : Nat) (J : Nat → Nat → Int64), k + r = 61 → rk_go C 41 (32, [some (.ref 0), some (.int x), some (.int (nI 61)), none], [], (rk_R, I, gt_w2 24 25 (fun k => if k = 0 then 1 else 0) (fun k => if k = 1 then (-(nI p)).toInt64 else 0) r k J)) v τ → rk_go C 41 (32, [some (.ref 0), some (.int x), some (.int (nI k)), none], [], (rk_R, I, J)) v τ := by
  intro r
  induction r with
  | zero =>
    intro k J hk hg
    have : k = 61 := by omega
    subst this
    exact hg
  | succ r ih =>
    intro k J hk hg
    have h60 : ¬ (60 : Int32) < nI k := nI_nlt (a := 60) (b := k) (by omega) (by omega)
    have hv : vp_in (nI k) 61 := vp_in_nI (by omega) (by decide)
    have g := ih (k + 1) _ (by omega) hg
    by_cases e0 : k = 0
    · subst e0
      exact rp_growth_32_3 I J x (nI 0) h60 rfl hv (by decide) hv g
    · by_cases e1 : k = 1
      · subst e1
        have q := rp_growth_32_2 (C := C) (v := v) (τ := τ) I J x (nI 1) h60 (by decide) hv rfl hv
        rw [hp] at q
        exact q g
      · have q := rp_growth_32_1 (C := C) (v := v) (τ := τ) I J x (nI k) h60 (nI_ne0 (by omega) (by omega)) hv (fun e => e1 ((nI_eq (by omega) (by omega)).mp e)) hv
        rw [nI_clamp (by omega), nI_1] at q
        refine q ?_
        simp only [if_neg e0, if_neg e1] at g
        exact g
theorem rs_gr_87 {x : Int32} : ∀ (r k : Nat) (J : Nat → Nat → Int64), k + r = 61 → rk_go C 41 (116, [some (.ref 0), some (.int x), some (.int 0), none], [], (rk_R, I, gt_a 24 25 r k J)) v τ → rk_go C 41 (87, [some (.ref 0), some (.int x), some (.int (nI k)), none], [], (rk_R, I, J)) v τ := by
  intro r
  induction r with
  | zero =>
    intro k J hk hg
    have : k = 61 := by omega
    subst this
    exact rp_growth_87_0 I J x (nI 61) (by decide) hg
  | succ r ih =>
    intro k J hk hg
    have hv : vp_in (nI k) 61 := vp_in_nI (by omega) (by decide)
    have g := ih (k + 1) _ (by omega) hg
    have q := rp_growth_87_1 (C := C) (v := v) (τ := τ) I J x (nI k) (nI_nlt (a := 60) (b := k) (by omega) (by omega)) hv hv hv
    rw [nI_clamp (by omega), nI_1] at q
    exact q g
theorem rs_gr_188 {x y : Int32} : ∀ (r k : Nat) (J : Nat → Nat → Int64), k + r = 61 → rk_go C 41 (116, [some (.ref 0), some (.int x), some (.int (y + 1)), none], [], (rk_R, I, gt_a 24 25 r k J)) v τ → rk_go C 41 (188, [some (.ref 0), some (.int x), some (.int y), some (.int (nI k))], [], (rk_R, I, J)) v τ := by
  intro r
  induction r with
  | zero =>
    intro k J hk hg
    have : k = 61 := by omega
    subst this
    exact rp_growth_188_0 I J x y (nI 61) (by decide) hg
  | succ r ih =>
    intro k J hk hg
    have hv : vp_in (nI k) 61 := vp_in_nI (by omega) (by decide)
    have g := ih (k + 1) _ (by omega) hg
    have q := rp_growth_188_1 (C := C) (v := v) (τ := τ) I J x y (nI k) (nI_nlt (a := 60) (b := k) (by omega) (by omega)) hv hv hv
    rw [nI_clamp (by omega), nI_1] at q
    exact q g
theorem rs_gr_138 {x : Int32} {c m : Nat} (hc : c < 8) (hm : m < 100) (hI : I 1 c = nI m) {J' : Nat → Nat → Int64} : ∀ (r k : Nat) (J : Nat → Nat → Int64), k + r = 61 → C 40 [.ref 0, .int 2] (rk_R, I, gt_w 25 (fun k => if k = m then 1 else 0) r k J) none (rk_R, I, J') → rk_go C 41 (176, [some (.ref 0), some (.int x), some (.int (nI c)), none], [], (rk_R, I, J')) v τ → rk_go C 41 (138, [some (.ref 0), some (.int x), some (.int (nI c)), some (.int (nI k))], [], (rk_R, I, J)) v τ := by
  intro r
  induction r with
  | zero =>
    intro k J hk hcall hg
    have : k = 61 := by omega
    subst this
    exact rp_growth_138_0 I J x (nI c) (nI 61) (by decide) hcall hg
  | succ r ih =>
    intro k J hk hcall hg
    have hv : vp_in (nI k) 61 := vp_in_nI (by omega) (by decide)
    have hvc : vp_in (nI c) 8 := vp_in_nI hc (by decide)
    have h60 : ¬ (60 : Int32) < nI k := nI_nlt (a := 60) (b := k) (by omega) (by omega)
    have g := ih (k + 1) _ (by omega) hcall hg
    by_cases e : k = m
    · have q := rp_growth_138_2 (C := C) (v := v) (τ := τ) I J x (nI c) (nI k) h60 hvc
      rw [nI_clamp (show k < 2 ^ 31 by omega), nI_clamp (show c < 2 ^ 31 by omega), hI, nI_1] at q
      simp only [if_pos e] at g
      exact q (by rw [e]) hv g
    · have q := rp_growth_138_1 (C := C) (v := v) (τ := τ) I J x (nI c) (nI k) h60 hvc
      rw [nI_clamp (show k < 2 ^ 31 by omega), nI_clamp (show c < 2 ^ 31 by omega), hI, nI_1] at q
      simp only [if_neg e] at g
      exact q (fun z => e ((nI_eq (by omega) (by omega)).mp z)) hv g
end GR
theorem gp_neg : ∀ p : Fin 9, -((-(nI p.1)).toInt64) = (nI p.1).toInt64 := by decide +kernel
section GR2
variable {d p : Nat} {I : Nat → Nat → Int32} {v : Option Value} {τ : ij_S} {cr : Nat → Nat}
/-- the corners, from n on -/
theorem rs_gr_116 {x : Int32} (hp : p ≤ 8) (h1 : I 0 1 = nI p) (hcr : ∀ c, c < p → I 1 c = nI (cr c) ∧ cr c < 10) : ∀ (r n : Nat) (J : Nat → Nat → Int64), n + r = p → ge (J 24) (gp_D p cr n) → ∃ J1 : Nat → Nat → Int64, ge (J1 24) (gp_D p cr p) ∧ (∀ q, q ≠ 24 → q ≠ 25 → J1 q = J q) ∧ ∀ (v : Option Value) (τ : ij_S), rk_go (rk_call (d + 1)) 41 (223, [some (.ref 0), some (.int x), some (.int 0), none], [], (rk_R, I, J1)) v τ → rk_go (rk_call (d + 1)) 41 (116, [some (.ref 0), some (.int x), some (.int (nI n)), none], [], (rk_R, I, J)) v τ := by
  intro r
  induction r with
  | zero =>
    intro n J hn hD
    have : n = p := by omega
    subst this
    exact ⟨J, hD, fun _ _ _ => rfl, fun v τ hg => rp_growth_116_0 I J x (nI n) (by rw [h1]; exact nI_le (Nat.le_refl n) (by omega)) hg⟩
  | succ r ih =>
    intro n J hn hD
    have hge : ¬ I 0 1 ≤ nI n := by rw [h1]; exact nI_ge (by omega) (by omega)
    have hv : vp_in (nI n) 8 := vp_in_nI (by omega) (by decide)
    obtain ⟨hc1, hc2⟩ := hcr n (by omega)
    have cn : (nI n).toNatClampNeg = n := nI_clamp (by omega)
    by_cases e : cr n = 0
    · have hD' : ge (J 24) (gp_D p cr (n + 1)) := by
        show ge (J 24) (if cr n = 0 then _ else _)
        rw [if_pos e]
        exact hD
      obtain ⟨J1, g1, g2, g3⟩ := ih (n + 1) J (by omega) hD'
      refine ⟨J1, g1, g2, fun v τ hg => ?_⟩
      have g := g3 v τ hg
      rw [← nI_1] at g
      exact rp_growth_116_2 I J x (nI n) hge hv (by rw [cn, hc1, e]; rfl) g
    · have hJ := rs_div (d := d) (I := I) (m := 2) (gt_w 25 (fun k => if k = cr n then 1 else 0) 61 0 J) (by decide) (by decide)
      have hJ2 := rs_div (d := d) (I := I) (m := cr n) (gt_k 25 2 61 0 (gt_w 25 (fun k => if k = cr n then 1 else 0) 61 0 J)) (by omega) (by omega)
      have hw : ge (gt_w 25 (fun k => if k = cr n then 1 else 0) 61 0 J 25) (fun k => if k = cr n then 1 else 0) := fun k hk => by
        rw [gt_w_at, if_pos (by omega)]
      have hpart := gp_part_of hw
      have h24 : gt_k 25 (cr n) 61 0 (gt_k 25 2 61 0 (gt_w 25 (fun k => if k = cr n then 1 else 0) 61 0 J)) 24 = J 24 := (gt_k_ne (by decide) _ _ _).trans ((gt_k_ne (by decide) _ _ _).trans (gt_w_ne (by decide) _ _ _))
      have hD' : ge (gt_a 24 25 61 0 (gt_k 25 (cr n) 61 0 (gt_k 25 2 61 0 (gt_w 25 (fun k => if k = cr n then 1 else 0) 61 0 J))) 24) (gp_D p cr (n + 1)) := by
        intro k hk
        show _ = (if cr n = 0 then _ else gp_add (gp_D p cr n) (gp_part (cr n))) k
        rw [if_neg e, gt_a_at (by decide), if_pos (by omega), hpart k hk, h24, hD k hk]
        rfl
      obtain ⟨J1, g1, g2, g3⟩ := ih (n + 1) _ (by omega) hD'
      refine ⟨J1, g1, fun q q1 q2 => (g2 q q1 q2).trans ((gt_a_ne q1 _ _ _).trans ((gt_k_ne q2 _ _ _).trans ((gt_k_ne q2 _ _ _).trans (gt_w_ne q2 _ _ _)))), fun v τ hg => ?_⟩
      have g := g3 v τ hg
      rw [← nI_1] at g
      have q := rp_growth_176_0 (C := rk_call (d + 1)) (v := v) (τ := τ) I (gt_k 25 2 61 0 (gt_w 25 (fun k => if k = cr n then 1 else 0) 61 0 J)) x (nI n) hv (I' := I) (J' := gt_k 25 (cr n) 61 0 (gt_k 25 2 61 0 (gt_w 25 (fun k => if k = cr n then 1 else 0) 61 0 J)))
      rw [cn, hc1] at q
      exact rp_growth_116_1 I J x (nI n) hge hv (by rw [cn, hc1]; exact nI_ne0 (by omega) (by omega)) (rs_gr_138 (by omega) (by omega) hc1 61 0 J rfl hJ (q hJ2 (rp_growth_186_0 I _ x (nI n) (rs_gr_188 61 0 _ rfl g))))
/-- one term -/
theorem rs_gr_245 {C : ij_R} {x : Int32} {k : Nat} (hk : k < 61) : ∀ (r j : Nat) (J : Nat → Nat → Int64), 1 ≤ j → j + r = k + 1 → ∃ J' : Nat → Nat → Int64, J' 26 k = gp_acc (J 24) (J 26) k r j (J 26 k) ∧ (∀ i, i ≠ k → J' 26 i = J 26 i) ∧ (∀ q, q ≠ 26 → J' q = J q) ∧ ∀ (v : Option Value) (τ : ij_S), rk_go C 41 (245, [some (.ref 0), some (.int x), some (.int (nI k)), some (.int (nI (k + 1)))], [], (rk_R, I, J')) v τ → rk_go C 41 (245, [some (.ref 0), some (.int x), some (.int (nI k)), some (.int (nI j))], [], (rk_R, I, J)) v τ := by
  intro r
  induction r with
  | zero =>
    intro j J hj h
    have : j = k + 1 := by omega
    subst this
    exact ⟨J, rfl, fun _ _ => rfl, fun _ _ => rfl, fun _ _ hg => hg⟩
  | succ r ih =>
    intro j J hj h
    obtain ⟨J', h1, h2, h3, h4⟩ := ih (j + 1) (ij_u J 26 k (J 26 k - J 24 j * J 26 (k - j))) (by omega) (by omega)
    refine ⟨J', ?_, ?_, ?_, fun v τ hg => ?_⟩
    · rw [h1, ij_u_same]
      show gp_acc (J 24) (ij_u J 26 k (J 26 k - J 24 j * J 26 (k - j)) 26) k r (j + 1) _ = gp_acc (J 24) (J 26) k r (j + 1) _
      exact gp_acc_congr hk (ge_refl _) (fun i hi => ij_u_other _ _ _ _ (by omega)) _ _ _ (by omega) (by omega)
    · intro i hi
      rw [h2 i hi]
      exact ij_u_other _ _ _ _ hi
    · intro q hq
      rw [h3 q hq]
      exact ij_u_ne hq
    · have q := rp_growth_245_2 (C := C) (v := v) (τ := τ) I J x (nI k) (nI j) (nI_nlt (by omega) (by omega))
      rw [pk_sub (show j ≤ k by omega), nI_clamp (show k < 2 ^ 31 by omega), nI_clamp (show j < 2 ^ 31 by omega), nI_clamp (show k - j < 2 ^ 31 by omega), nI_1] at q
      exact q (vp_in_nI hk (by decide)) (vp_in_nI (by omega) (by decide)) (vp_in_nI (by omega) (by decide)) (vp_in_nI hk (by decide)) (h4 v τ hg)
/-- the terms, from k on -/
theorem rs_gr_223 {C : ij_R} {D : Nat → Int64} {N K : Nat} (hN : N ≤ 60) (hK : gp_K D K) : ∀ (r k : Nat) (J : Nat → Nat → Int64), k + r = N + 1 → ge (J 24) D → k ≤ K → (∀ i, i < k → J 26 i = gp_t D i i) → ∃ J', rk_go C 41 (223, [some (.ref 0), some (.int (nI N)), some (.int (nI k)), none], [], (rk_R, I, J)) (some (.long (if N < K then gp_t D N N else -1))) (rk_R, I, J') ∧ ∀ q, q ≠ 26 → J' q = J q := by
  intro r
  induction r with
  | zero =>
    intro k J hk hD hkK ht
    have : k = N + 1 := by omega
    subst this
    refine ⟨J, ?_, fun _ _ => rfl⟩
    have q := rp_growth_223_0 (C := C) I J (nI N) (nI (N + 1)) (nI_lt (by omega) (by omega)) (vp_in_nI (by omega) (by decide))
    rw [nI_clamp (by omega), ht N (by omega)] at q
    rw [if_pos (by omega)]
    exact q
  | succ r ih =>
    intro k J hk hD hkK ht
    obtain ⟨K1, K2, K3, K4⟩ := hK
    have hnl : ¬ nI N < nI k := nI_nlt (by omega) (by omega)
    have hv : vp_in (nI k) 61 := vp_in_nI (by omega) (by decide)
    have ck : (nI k).toNatClampNeg = k := nI_clamp (by omega)
    have hlt : nI k < nI (k + 1) := nI_lt (by omega) (by omega)
    -- what stands behind the inner loop
    have key : ∀ J' : Nat → Nat → Int64, J' 26 k = gp_t D k k → (∀ i, i ≠ k → J' 26 i = J 26 i) → (∀ q, q ≠ 26 → J' q = J q) → ∃ J'', rk_go C 41 (245, [some (.ref 0), some (.int (nI N)), some (.int (nI k)), some (.int (nI (k + 1)))], [], (rk_R, I, J')) (some (.long (if N < K then gp_t D N N else -1))) (rk_R, I, J'') ∧ ∀ q, q ≠ 26 → J'' q = J q := by
      intro J' h1 h2 h3
      by_cases hc : k < K
      · obtain ⟨J'', g1, g2⟩ := ih (k + 1) J' (by omega) (by rw [h3 24 (by decide)]; exact hD) (by omega) (fun i hi => by
          by_cases e : i = k
          · subst e; exact h1
          · rw [h2 i e]; exact ht i (by omega))
        rw [← nI_1] at g1
        refine ⟨J'', rp_growth_245_0 I J' (nI N) (nI k) (nI (k + 1)) hlt hv ?_ g1, fun q hq => (g2 q hq).trans (h3 q hq)⟩
        rw [ck, h1]
        exact K3 k hc
      · have e : k = K := by omega
        subst e
        refine ⟨J', ?_, h3⟩
        rw [if_neg (by omega)]
        refine rp_growth_245_1 I J' (nI N) (nI k) (nI (k + 1)) hlt hv ?_
        rw [ck, h1]
        exact K4 (by omega)
    by_cases e0 : k = 0
    · subst e0
      obtain ⟨J'', g1, g2⟩ := key (ij_u J 26 0 1) (ij_u_same _ _ _ _) (fun i hi => ij_u_other _ _ _ _ hi) (fun q hq => ij_u_ne hq)
      exact ⟨J'', rp_growth_223_2 I J (nI N) (nI 0) hnl rfl hv g1, g2⟩
    · obtain ⟨k', rfl⟩ : ∃ k', k = k' + 1 := ⟨k - 1, by omega⟩
      obtain ⟨J2, h1, h2, h3, h4⟩ := rs_gr_245 (C := C) (I := I) (x := nI N) (k := k' + 1) (by omega) (k' + 1) 1 (ij_u J 26 (k' + 1) 0) (Nat.le_refl 1) (by omega)
      have d1 : J2 26 (k' + 1) = gp_t D (k' + 1) (k' + 1) := by
        rw [h1, ij_u_same]
        show gp_acc (J 24) (ij_u J 26 (k' + 1) 0 26) (k' + 1) (k' + 1) 1 0 = (if k' + 1 = k' + 1 then gp_acc D (gp_t D k') (k' + 1) (k' + 1) 1 0 else _)
        rw [if_pos rfl]
        refine gp_acc_congr (by omega) hD (fun i hi => ?_) _ _ _ (by omega) (by omega)
        rw [ij_u_other _ _ _ _ (by omega), ht i (by omega), gp_t_le (n := k') (k := i) (by omega)]
      obtain ⟨J'', g1, g2⟩ := key J2 d1 (fun i hi => (h2 i hi).trans (ij_u_other _ _ _ _ hi)) (fun q hq => (h3 q hq).trans (ij_u_ne hq))
      have q := rp_growth_223_1 (C := C) (v := some (.long (if N < K then gp_t D N N else -1))) (τ := (rk_R, I, J'')) I J (nI N) (nI (k' + 1)) hnl (nI_ne0 (by omega) (by omega)) hv
      rw [ck] at q
      exact ⟨J'', q (h4 _ _ g1), g2⟩
end GR2
theorem gp_K_ex (D : Nat → Int64) : ∃ K, gp_K D K := by
  have key : ∀ r K, K + r = 61 → 1 ≤ K → (∀ k, k < K → lg_cmp (gp_t D k k) 1000000000000000 ≤ 0) → ∃ K, gp_K D K := by
    intro r
    induction r with
    | zero => intro K h h1 h2; exact ⟨K, h1, by omega, h2, fun h => by omega⟩
    | succ r ih =>
      intro K h h1 h2
      by_cases hc : lg_cmp (gp_t D K K) 1000000000000000 ≤ 0
      · exact ih (K + 1) (by omega) (by omega) (fun k hk => by
          by_cases e : k = K
          · subst e; exact hc
          · exact h2 k (by omega))
      · exact ⟨K, h1, by omega, h2, fun _ => hc⟩
  refine key 60 1 rfl (Nat.le_refl 1) (fun k hk => ?_)
  have : k = 0 := by omega
  subst this
  show lg_cmp 1 1000000000000000 ≤ 0
  decide
theorem gp_K_unique {D : Nat → Int64} {K K' : Nat} (h : gp_K D K) (h' : gp_K D K') : K = K' := by
  obtain ⟨a1, a2, a3, a4⟩ := h
  obtain ⟨b1, b2, b3, b4⟩ := h'
  rcases Nat.lt_trichotomy K K' with e | e | e
  · exact absurd (b3 K e) (a4 (by omega))
  · exact e
  · exact absurd (a3 K' e) (b4 (by omega))
/-- the reference's growth -/
theorem rs_growth {d p N : Nat} {I : Nat → Nat → Int32} {cr : Nat → Nat} {K : Nat} (J : Nat → Nat → Int64) (hp : p ≤ 8) (h1 : I 0 1 = nI p) (hcr : ∀ c, c < p → I 1 c = nI (cr c) ∧ cr c < 10) (hN : N ≤ 60) (hK : gp_K (gp_D p cr p) K) : ∃ J', rk_go (rk_call (d + 1)) 41 (25, [some (.ref 0), some (.int (nI N)), none, none], [.int 1], (rk_R, I, J)) (some (.long (if N < K then gp_t (gp_D p cr p) N N else -1))) (rk_R, I, J') ∧ ∀ q, q ≠ 24 → q ≠ 25 → q ≠ 26 → J' q = J q := by
  let JA := gt_w2 24 25 (fun k => if k = 0 then 1 else 0) (fun k => if k = 1 then (-(nI p)).toInt64 else 0) 61 0 J
  let JB := gt_k 25 2 61 0 JA
  let JC := gt_a 24 25 61 0 JB
  have hA : ∀ i, i < 61 → JA 24 i = (if i = 0 then 1 else 0) ∧ JA 25 i = if i = 1 then (-(nI p)).toInt64 else 0 := fun i hi => by
    have := gt_w2_at (q := 24) (q2 := 25) (f := fun k => if k = 0 then 1 else 0) (f2 := fun k => if k = 1 then (-(nI p)).toInt64 else 0) (by decide) 61 0 J i
    rw [if_pos (show 0 ≤ i ∧ i < 0 + 61 by omega), if_pos (show 0 ≤ i ∧ i < 0 + 61 by omega)] at this
    exact this
  have hB : ge (JB 25) (fun i => if i = 0 then 0 else if i % 2 = 1 then (-(nI p)).toInt64 else -(-(nI p)).toInt64) := gp_two 61 0 _ JA 25 rfl (fun i hi => by omega) (fun i _ hi => (hA i hi).2)
  have hB24 : JB 24 = JA 24 := gt_k_ne (by decide) _ _ _
  have hC : ge (JC 24) (gp_D p cr 0) := by
    intro k hk
    show gt_a 24 25 61 0 JB 24 k = if k = 0 then 1 else if k % 2 = 1 then (-(nI p)).toInt64 else (nI p).toInt64
    rw [gt_a_at (by decide), if_pos (by omega), hB24, (hA k hk).1, hB k hk]
    have hn := gp_neg ⟨p, by omega⟩
    by_cases e : k = 0
    · simp only [if_pos e]
      decide
    · simp only [if_neg e]
      by_cases ho : k % 2 = 1
      · simp only [if_pos ho]
        simp
      · simp only [if_neg ho]
        rw [show -(-(nI p)).toInt64 = (nI p).toInt64 from hn]
        simp
  have hne : ∀ q, q ≠ 24 → q ≠ 25 → JC q = J q := fun q q1 q2 => (gt_a_ne q1 _ _ _).trans ((gt_k_ne q2 _ _ _).trans (gt_w2_ne q1 q2 _ _ _))
  have hdiv := rs_div (d := d) (I := I) (m := 2) JA (by decide) (by decide)
  obtain ⟨J1, e1, e2, e3⟩ := rs_gr_116 (d := d) (x := nI N) hp h1 hcr p 0 JC (Nat.zero_add p) hC
  obtain ⟨J', g1, g2⟩ := rs_gr_223 (C := rk_call (d + 1)) (I := I) hN hK (N + 1) 0 J1 (Nat.zero_add _) e1 (Nat.zero_le _) (fun i hi => by omega)
  refine ⟨J', rp_growth_25_0 I J (nI N) 1 (by decide) (rs_gr_32 h1 61 0 J rfl (rp_growth_32_0 I JA (nI N) (nI 61) (by decide) hdiv (rp_growth_85_0 I JB (nI N) (rs_gr_87 61 0 JB rfl (e3 _ _ g1))))), fun q q1 q2 q3 => (g2 q q3).trans ((e2 q q1 q2).trans (hne q q1 q2))⟩
