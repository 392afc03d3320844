/-! ===== closed boards: the class makes them known ===== -/
noncomputable def cb_lk (n p : Nat) (l : List (List Nat)) : Nat := (l.map (fun a => if cb_k1 n p a then (if cb_R n p a 0 = a then or_ct (cb_R n p) n a a else 0) else 0)).sum
theorem cb_lk1 (n p : Nat) (l : List (List Nat)) (a : List Nat) : cb_lk n p (l ++ [a]) = cb_lk n p l + (if cb_k1 n p a then (if cb_R n p a 0 = a then or_ct (cb_R n p) n a a else 0) else 0) := by
  unfold cb_lk
  rw [List.map_append, List.sum_append]
  congr 1
/-- what the class keeps of the first smooth one -/
def cb_fi (n p : Nat) (cs : Nat → Nat) (o : Option (List Nat)) (I : Nat → Nat → Int32) : Prop := match o with
  | none => I 37 n = 0 ∧ I 38 (5 * n + 3) = -1
  | some a => I 37 n = 1 ∧ I 38 (5 * n + 3) = cb_hv n p cs a ∧ ∀ s t, s < p → t < n → I 39 ((8 * n + s) * 6 + t) = nI (cb_b n a s t)
/-- other sizes' -/
def cb_oth (n : Nat) (B I : Nat → Nat → Int32) : Prop := (∀ k, k ≠ n → I 37 k = B 37 k) ∧ (∀ y, y ≠ 5 * n + 3 → I 38 y = B 38 y) ∧ ∀ y, (y < 48 * n ∨ 48 * n + 48 ≤ y) → I 39 y = B 39 y
def cb_VX (n p : Nat) (cs : Nat → Nat) (B : Nat → Nat → Int32) (l : List (List Nat)) (I : Nat → Nat → Int32) : Prop := I 22 9 = nI (l.countP (cb_k1 n p)) ∧ I 22 10 = nI (l.countP (cb_k2 n p cs)) ∧ I 22 11 = nI (cb_lk n p l) ∧ cb_fi n p cs (l.find? (cb_k2 n p cs)) I ∧ cb_oth n B I
section CK1
variable {X : ij_R} {d n p : Nat} {b : Bool} {J : Nat → Nat → Int64} {cs : Nat → Nat} {a : List Nat}
theorem cb_fi_fr {o : Option (List Nat)} {I I' : Nat → Nat → Int32} (h7 : I' 37 n = I 37 n) (h8 : I' 38 (5 * n + 3) = I 38 (5 * n + 3)) (h9 : I' 39 = I 39) (h : cb_fi n p cs o I) : cb_fi n p cs o I' := by
  cases o with
  | none => exact ⟨h7.trans h.1, h8.trans h.2⟩
  | some a => exact ⟨h7.trans h.1, h8.trans h.2.1, fun s t hs ht => by rw [h9]; exact h.2.2 s t hs ht⟩
theorem lx_firstPlace {I : Nat → Nat → Int32} {m s t : Nat} : lk_cx1 X (d + 1) 82 [.int (nI m), .int (nI s), .int (nI t)] (xk_R b, I, J) (some (.int (nI ((8 * m + s) * 6 + t)))) (xk_R b, I, J) := by
  have q := xp_X5_firstPlace_0_0 (C := ik_cr xk_P xk_M xk_Y xk_K X d) (b := b) I J (nI m) (nI s) (nI t)
  rw [lr_8, cb_6] at q
  rw [Nat.mul_comm]
  exact ik_cr_of (Nat.le_of_ble_eq_true rfl) q
theorem lx_kf35 (hn : n < 7) (hp : p ≤ 8) (hal : a.length = p) (hok : cb_ok n p a) {s : Nat} (hs : s < p) : ∀ (r t : Nat) (I : Nat → Nat → Int32), t + r = n → cb_xs n p cs I → cb_ch a I → ∃ I', (∀ v τ, xk_go (ik_cr xk_P xk_M xk_Y xk_K X (d + 2)) 88 (22, [some (.ref 22), some (.int (nI n)), some (.int (nI (s + 1))), none, none], [], (xk_R b, I', J)) v τ → xk_go (ik_cr xk_P xk_M xk_Y xk_K X (d + 2)) 88 (35, [some (.ref 22), some (.int (nI n)), some (.int (nI s)), some (.int (nI t)), none], [], (xk_R b, I, J)) v τ) ∧ (∀ u, t ≤ u → u < n → I' 39 ((8 * n + s) * 6 + u) = nI (cb_b n a s u)) ∧ (∀ y, (y < (8 * n + s) * 6 + t ∨ (8 * n + s) * 6 + 6 ≤ y) → I' 39 y = I 39 y) ∧ ∀ q, q ≠ 39 → I' q = I q := by
  intro r
  induction r with
  | zero =>
    intro t I ht hx hc
    have : t = n := by omega
    subst this
    refine ⟨I, fun v τ hg => ?_, fun u h1 h2 => by omega, fun _ _ => rfl, fun _ _ => rfl⟩
    rw [← nI_1] at hg
    exact xp_X5_keepFirst_35_0 I J _ _ _ (nI_le (Nat.le_refl t) (by omega)) hg
  | succ r ih =>
    intro t I ht hx hc
    have hpl : (8 * n + s) * 6 + t < 336 := by omega
    obtain ⟨I', z1, z2, z3, z4⟩ := ih (t + 1) (ij_u I 39 ((8 * n + s) * 6 + t) (nI (cb_b n a s t))) (by omega) (cb_xs_fX (s := 0) ⟨fun q k _ _ _ _ _ _ _ a8 _ => lb_u_at (fun z => a8 z.1), fun k hk => absurd hk (Nat.not_lt_zero k), fun y _ => congrFun (ij_u_ne (by decide)) y⟩ hx) (fun k hk => (congrFun (ij_u_ne (by decide)) k).trans (hc k hk))
    refine ⟨I', fun v τ hg => ?_, fun u h1 h2 => ?_, fun y hy => ?_, fun q hq => (z4 q hq).trans (ij_u_ne hq)⟩
    · have z := z1 v τ hg
      rw [← nI_1] at z
      have q := xp_X5_keepFirst_78_0 (C := ik_cr xk_P xk_M xk_Y xk_K X (d + 2)) (v := v) (τ := τ) (b := b) I J (nI n) (nI s) (nI t) (nI ((8 * n + s) * 6 + t)) (nI (cb_b n a s t)) (vp_in_nI hpl (by decide))
      rw [nI_clamp (by omega)] at q
      exact xp_X5_keepFirst_35_1 I J _ _ _ _ (nI_ge (by omega) (by omega)) (lx_firstPlace (d := d + 1)) (xp_X5_keepFirst_46_2 I J _ _ _ _ _ (nI_pos (by omega)) (by decide) (nI_ge (b := 336) hpl (by decide)) (lx_across hn (by omega) hx.1.1.1 hc (by omega) (hok s hs) (by omega)) (q z))
    · by_cases e : u = t
      · subst e
        rw [z3 _ (by omega), ij_u_same]
      · exact z2 u (by omega) h2
    · rw [z3 y (by omega), ij_u_other _ _ _ _ (by omega)]
theorem lx_kf22 (hn : n < 7) (hp : p ≤ 8) (hal : a.length = p) (hok : cb_ok n p a) : ∀ (r s : Nat) (I : Nat → Nat → Int32), s + r = p → cb_xs n p cs I → cb_ch a I → ∃ I', xk_go (ik_cr xk_P xk_M xk_Y xk_K X (d + 2)) 88 (22, [some (.ref 22), some (.int (nI n)), some (.int (nI s)), none, none], [], (xk_R b, I, J)) none (xk_R b, I', J) ∧ (∀ s' u, s ≤ s' → s' < p → u < n → I' 39 ((8 * n + s') * 6 + u) = nI (cb_b n a s' u)) ∧ (∀ y, (y < (8 * n + s) * 6 ∨ (8 * n + 8) * 6 ≤ y) → I' 39 y = I 39 y) ∧ ∀ q, q ≠ 39 → I' q = I q := by
  intro r
  induction r with
  | zero =>
    intro s I hs hx hc
    have : s = p := by omega
    subst this
    exact ⟨I, xp_X5_keepFirst_22_0 I J _ _ (by rw [hx.1.2.1]; exact nI_le (Nat.le_refl s) (by omega)), fun s' u h1 h2 => by omega, fun _ _ => rfl, fun _ _ => rfl⟩
  | succ r ih =>
    intro s I hs hx hc
    obtain ⟨I1, z1, z2, z3, z4⟩ := lx_kf35 (X := X) (d := d) (b := b) (J := J) hn hp hal hok (show s < p by omega) n 0 I (Nat.zero_add n) hx hc
    obtain ⟨I', k1, k2, k3, k4⟩ := ih (s + 1) I1 (by omega) (cb_xs_fX (s := 0) ⟨fun q k _ _ _ _ _ _ _ a8 _ => congrFun (z4 q a8) k, fun k hk => absurd hk (Nat.not_lt_zero k), fun y _ => congrFun (z4 30 (by decide)) y⟩ hx) (by unfold cb_ch; rw [z4 29 (by decide)]; exact hc)
    refine ⟨I', xp_X5_keepFirst_22_1 I J _ _ (by rw [hx.1.2.1]; exact nI_ge (by omega) (by omega)) (z1 _ _ k1), fun s' u h1 h2 h3 => ?_, fun y hy => ?_, fun q hq => (k4 q hq).trans (z4 q hq)⟩
    · by_cases e : s' = s
      · rw [e, k3 _ (by omega)]; exact z2 u (Nat.zero_le u) h3
      · exact k2 s' u (by omega) h2 h3
    · rw [k3 y (by omega), z3 y (by omega)]
theorem lx_keepFirst {I : Nat → Nat → Int32} (hn1 : 1 ≤ n) (hn : n < 7) (hp : p ≤ 8) (hal : a.length = p) (hok : cb_ok n p a) (hx : cb_xs n p cs I) (hc : cb_ch a I) : ∃ I', lk_cx1 X (d + 3) 88 [.ref 22, .int (nI n)] (xk_R b, I, J) none (xk_R b, I', J) ∧ I' 37 n = 1 ∧ (∀ k, k ≠ n → I' 37 k = I 37 k) ∧ (∀ s u, s < p → u < n → I' 39 ((8 * n + s) * 6 + u) = nI (cb_b n a s u)) ∧ (∀ y, (y < 48 * n ∨ 48 * n + 48 ≤ y) → I' 39 y = I 39 y) ∧ ∀ q, q ≠ 37 → q ≠ 39 → I' q = I q := by
  obtain ⟨I', k1, k2, k3, k4⟩ := lx_kf22 (X := X) (d := d) (b := b) (J := J) hn hp hal hok p 0 (ij_u I 37 n (vp_nar .boolean 1)) (Nat.zero_add p) (cb_xs_fX (s := 0) ⟨fun q k _ _ _ _ _ a6 _ _ _ => lb_u_at (fun z => a6 z.1), fun k hk => absurd hk (Nat.not_lt_zero k), fun y _ => congrFun (ij_u_ne (by decide)) y⟩ hx) (fun k hk => (congrFun (ij_u_ne (by decide)) k).trans (hc k hk))
  refine ⟨I', ik_cr_of (Nat.le_of_ble_eq_true rfl) ?_, ?_, fun k hk => ?_, fun s u hs hu => k2 s u (Nat.zero_le s) hs hu, fun y hy => (k3 y (by omega)).trans (congrFun (ij_u_ne (by decide)) y), fun q h1 h2 => (k4 q h2).trans (ij_u_ne h1)⟩
  · have q := xp_X5_keepFirst_0_2 (C := ik_cr xk_P xk_M xk_Y xk_K X (d + 2)) (v := none) (τ := (xk_R b, I', J)) (b := b) I J (nI n) (nI_pos (by omega)) (by decide) (nI_ge (b := 7) hn (by decide)) (vp_in_nI hn (by decide))
    rw [nI_clamp (by omega)] at q
    exact q k1
  · rw [k4 37 (by decide), ij_u_same]
    rfl
  · rw [k4 37 (by decide), ij_u_other _ _ _ _ hk]
theorem cb_5 (a c : Nat) : nI a * 5 + nI c = nI (5 * a + c) := by
  rw [show (5 : Int32) = nI 5 from rfl, pk_mul, Nat.mul_comm]
  exact (Int32.ofNat_add _ _).symm
theorem lx_setAnswer {I : Nat → Nat → Int32} {w : Nat} {x : Int32} (hn : n < 7) (hw : w < 5) : lk_cx1 X (d + 1) 89 [.ref 22, .int (nI n), .int (nI w), .int x] (xk_R b, I, J) none (xk_R b, ij_u I 38 (5 * n + w) x, J) := by
  have q := xp_X5_setAnswer_0_2 (C := ik_cr xk_P xk_M xk_Y xk_K X d) (b := b) I J (nI n) (nI w) x
  rw [cb_5, nI_clamp (by omega)] at q
  exact ik_cr_of (Nat.le_of_ble_eq_true rfl) (q (nI_pos (by omega)) (by decide) (nI_ge (b := 35) (by omega) (by decide)) (vp_in_nI (by omega) (by decide)))
theorem lx_weigh {I B : Nat → Nat → Int32} {l : List (List Nat)} (hlen : l.length < 300000) (hn1 : 1 ≤ n) (hn : n < 7) (hp3 : 3 ≤ p) (hp : p ≤ 8) (hcs : ∀ j, j < p → cs j < 10 ∧ cs j ≠ 1) (hal : a.length = p) (hok : cb_ok n p a) (hx : cb_xs n p cs I) (hc : cb_ch a I) (hL : cb_L n a p I) (hV : cb_VX n p cs B l I) : ∃ I', lk_cx1 X (d + 7) 87 [.ref 22, .int (nI n)] (xk_R b, I, J) none (xk_R b, I', J) ∧ cb_VX n p cs B (l ++ [a]) I' ∧ ∀ q k, q ≠ 31 → q ≠ 32 → q ≠ 33 → q ≠ 37 → q ≠ 38 → q ≠ 39 → ¬ (q = 22 ∧ 9 ≤ k ∧ k ≤ 11) → I' q k = I q k := by
  obtain ⟨V1, V2, V3, V4, V5⟩ := hV
  have hg := lx_hangs (X := X) (d := d + 3) (b := b) (J := J) hn1 hn hp hok hx hL
  by_cases con : cb_cn n p a
  · rw [cb_B_t con, if_pos rfl] at hg
    have k1t : cb_k1 n p a = true := cb_B_t con
    -- context stays over 22, 31, 32, 33
    have ctx : ∀ K : Nat → Nat → Int32, (∀ q k, q ≠ 31 → q ≠ 32 → q ≠ 33 → ¬ (q = 22 ∧ 9 ≤ k ∧ k ≤ 11) → K q k = I q k) → cb_xs n p cs K ∧ cb_ch a K := fun K hK => ⟨cb_xs_fX (s := 0) ⟨fun q k _ _ a3 a4 a5 _ _ _ a9 => hK q k a3 a4 a5 a9, fun k hk => absurd hk (Nat.not_lt_zero k), fun y _ => hK 30 y (by decide) (by decide) (by decide) (by omega)⟩ hx, fun k hk => (hK 29 k (by decide) (by decide) (by decide) (by omega)).trans (hc k hk)⟩
    have c0 := ctx (ij_u I 22 9 (I 22 9 + 1)) (fun q k _ _ _ a4 => lb_u_at (by omega))
    obtain ⟨I1, m1, m2, m3⟩ := lx_met (X := X) (d := d + 3) (b := b) (J := J) hn1 hn hp hal hok c0.1 c0.2
    have hmi := cb_met_iff hn hal hok con (show 0 < n by omega)
    -- the likenesses
    have own : ∃ I2, (∀ τ, xk_go (ik_cr xk_P xk_M xk_Y xk_K X (d + 6)) 87 (54, [some (.ref 22), some (.int (nI n))], [.int (if cb_B (cb_sm n p cs a) then 1 else 0)], (xk_R b, I2, J)) none τ → xk_go (ik_cr xk_P xk_M xk_Y xk_K X (d + 6)) 87 (28, [some (.ref 22), some (.int (nI n))], [.int (if cb_od n p a 0 = List.range n then 1 else 0)], (xk_R b, I1, J)) none τ) ∧ I2 22 11 = nI (cb_lk n p (l ++ [a])) ∧ I2 22 9 = nI ((l ++ [a]).countP (cb_k1 n p)) ∧ (∀ q k, q ≠ 31 → q ≠ 32 → q ≠ 33 → ¬ (q = 22 ∧ (k = 9 ∨ k = 11)) → I2 q k = I q k) := by
      have e9 : ∀ K : Nat → Nat → Int32, K 22 9 = ij_u I 22 9 (I 22 9 + 1) 22 9 → K 22 9 = nI ((l ++ [a]).countP (cb_k1 n p)) := fun K e => by
        rw [e, ij_u_same, V1, nI_1, cb_countP1, if_pos k1t]
      have f1 : ∀ q k, q ≠ 31 → q ≠ 32 → ¬ (q = 22 ∧ k = 9) → I1 q k = I q k := fun q k a1 a2 a3 => by rw [m3 q a1 a2]; exact lb_u_at a3
      have c1 := ctx I1 (fun q k a1 a2 _ a4 => f1 q k a1 a2 (by omega))
      by_cases hm : cb_od n p a 0 = List.range n
      · rw [if_pos hm]
        obtain ⟨I2, o1, o2⟩ := lx_own (X := X) (d := d + 2) (b := b) (J := J) hn1 hn hp hal hok con hm c1.1 c1.2 (m2 hm)
        have c2 := ctx (ij_u I2 22 11 (I1 22 11 + nI (or_ct (cb_R n p) n a a))) (fun q k a1 a2 a3 a4 => by rw [lb_u_at (by omega), o2 q a3]; exact f1 q k a1 a2 (by omega))
        have sm := lx_isSmooth (X := X) (d := d + 3) (b := b) (J := J) hn1 hn hp3 hp hcs hal hok c2.1 c2.2
        refine ⟨ij_u I2 22 11 (I1 22 11 + nI (or_ct (cb_R n p) n a a)), fun τ hgo => xp_X5_weigh_28_1 I1 J _ _ _ (by decide) o1 (xp_X5_weigh_43_0 I2 J _ _ _ _ sm hgo), ?_, e9 _ ?_, fun q k a1 a2 a3 a4 => ?_⟩
        · rw [ij_u_same, f1 22 11 (by decide) (by decide) (by omega), V3, cb_lk1, if_pos k1t, if_pos (hmi.mp hm)]
          exact (Int32.ofNat_add _ _).symm
        · show I2 22 9 = _
          rw [o2 22 (by decide), m3 22 (by decide) (by decide)]
        · rw [lb_u_at (by omega), o2 q a3]
          exact f1 q k a1 a2 (by omega)
      · rw [if_neg hm]
        have sm := lx_isSmooth (X := X) (d := d + 3) (b := b) (J := J) hn1 hn hp3 hp hcs hal hok c1.1 c1.2
        refine ⟨I1, fun τ hgo => xp_X5_weigh_28_0 I1 J _ _ _ rfl sm hgo, ?_, e9 _ (congrFun (m3 22 (by decide) (by decide)) 9), fun q k a1 a2 a3 a4 => f1 q k a1 a2 (by omega)⟩
        rw [f1 22 11 (by decide) (by decide) (by omega), V3, cb_lk1, if_pos k1t, if_neg (fun q => hm (hmi.mpr q)), Nat.add_zero]
    obtain ⟨I2, w1, w2, w3, w4⟩ := own
    have start : ∀ τ, xk_go (ik_cr xk_P xk_M xk_Y xk_K X (d + 6)) 87 (54, [some (.ref 22), some (.int (nI n))], [.int (if cb_B (cb_sm n p cs a) then 1 else 0)], (xk_R b, I2, J)) none τ → lk_cx1 X (d + 7) 87 [.ref 22, .int (nI n)] (xk_R b, I, J) none τ := fun τ hgo => ik_cr_of (Nat.le_of_ble_eq_true rfl) (xp_X5_weigh_0_0 I J _ _ hg (xp_X5_weigh_7_0 I J _ _ _ (by decide) m1 (w1 τ hgo)))
    have e10 : I2 22 10 = nI (l.countP (cb_k2 n p cs)) := (w4 22 10 (by decide) (by decide) (by decide) (by omega)).trans V2
    have oth2 : cb_oth n B I2 := ⟨fun k hk => (w4 37 k (by decide) (by decide) (by decide) (by omega)).trans (V5.1 k hk), fun y hy => (w4 38 y (by decide) (by decide) (by decide) (by omega)).trans (V5.2.1 y hy), fun y hy => (w4 39 y (by decide) (by decide) (by decide) (by omega)).trans (V5.2.2 y hy)⟩
    have fi2 : ∀ o, cb_fi n p cs o I → cb_fi n p cs o I2 := fun o h => cb_fi_fr (w4 37 n (by decide) (by decide) (by decide) (by omega)) (w4 38 _ (by decide) (by decide) (by decide) (by omega)) (funext (fun k => w4 39 k (by decide) (by decide) (by decide) (by omega))) h
    by_cases sm : cb_sm n p cs a
    · have k2t : cb_k2 n p cs a = true := cb_B_t ⟨con, sm⟩
      have cnt2 : (l ++ [a]).countP (cb_k2 n p cs) = l.countP (cb_k2 n p cs) + 1 := by rw [cb_countP1, if_pos k2t]
      rw [cb_B_t sm, if_pos rfl] at start
      cases hf : l.find? (cb_k2 n p cs) with
      | none =>
        have z0 : l.countP (cb_k2 n p cs) = 0 := by
          rw [List.countP_eq_zero]
          exact fun x hx => List.find?_eq_none.mp hf x hx
        have c2 := ctx I2 (fun q k a1 a2 a3 a4 => w4 q k a1 a2 a3 (by omega))
        obtain ⟨I3, f1, f2, f3, f4, f5, f6⟩ := lx_keepFirst (X := X) (d := d + 3) (b := b) (J := J) hn1 hn hp hal hok c2.1 c2.2
        have c3 : cb_xs n p cs I3 ∧ cb_ch a I3 := ⟨cb_xs_fX (s := 0) ⟨fun q k _ _ _ _ _ a6 _ a8 _ => congrFun (f6 q a6 a8) k, fun k hk => absurd hk (Nat.not_lt_zero k), fun y _ => congrFun (f6 30 (by decide) (by decide)) y⟩ c2.1, by unfold cb_ch; rw [f6 29 (by decide) (by decide)]; exact c2.2⟩
        obtain ⟨I4, h1, h2⟩ := lx_handles (X := X) (d := d + 1) (b := b) (J := J) hn hp3 hp hcs hal hok con (show 0 < n by omega) c3.1 c3.2
        refine ⟨ij_u (ij_u I4 38 (5 * n + 3) (cb_hv n p cs a)) 22 10 (I4 22 10 + 1), start _ (xp_X5_weigh_54_2 I2 J _ _ (by decide) (by rw [e10, z0]; rfl) f1 (xp_X5_weigh_69_0 I3 J _ _ h1 (xp_X5_weigh_79_0 I4 J _ _ _ (lx_setAnswer (d := d + 5) (w := 3) hn (by decide)) (xp_X5_weigh_82_0 _ J)))), ⟨?_, ?_, ?_, ?_, ?_, ?_, ?_⟩, fun q k a1 a2 a3 a4 a5 a6 a7 => ?_⟩
        · show I4 22 9 = _
          rw [h2 22 (by decide), f6 22 (by decide) (by decide)]; exact w3
        · show I4 22 10 + 1 = _
          rw [h2 22 (by decide), f6 22 (by decide) (by decide), e10, nI_1, cnt2]
        · show I4 22 11 = _
          rw [h2 22 (by decide), f6 22 (by decide) (by decide)]; exact w2
        · rw [List.find?_append, hf]
          show cb_fi n p cs (none.or (List.find? (cb_k2 n p cs) [a])) _
          rw [List.find?_cons_of_pos k2t]
          refine ⟨?_, ?_, fun s t hs ht => ?_⟩
          · show I4 37 n = 1
            rw [h2 37 (by decide)]; exact f2
          · exact (congrFun (ij_u_ne (by decide)) _).trans (ij_u_same _ _ _ _)
          · show I4 39 _ = _
            rw [h2 39 (by decide)]; exact f4 s t hs ht
        · intro k hk
          show I4 37 k = _
          rw [h2 37 (by decide), f3 k hk]; exact oth2.1 k hk
        · intro y hy
          rw [congrFun (ij_u_ne (by decide)) y, ij_u_other _ _ _ _ hy, h2 38 (by decide), f6 38 (by decide) (by decide)]
          exact oth2.2.1 y hy
        · intro y hy
          show I4 39 y = _
          rw [h2 39 (by decide), f5 y hy]; exact oth2.2.2 y hy
        · rw [lb_u_at (by omega), lb_u_at (by omega), h2 q a3, f6 q a4 a6]
          exact w4 q k a1 a2 a3 (by omega)
      | some a0 =>
        have z0 : l.countP (cb_k2 n p cs) ≠ 0 := fun z => by
          rw [List.countP_eq_zero] at z
          exact z a0 (List.mem_of_find?_eq_some hf) (List.find?_some hf)
        by_cases z32 : I2 22 10 = 0
        · exact absurd ((nI_eq (b := 0) (by have := List.countP_le_length (p := cb_k2 n p cs) (l := l); omega) (by decide)).mp (e10.symm.trans z32)) z0
        · refine ⟨ij_u I2 22 10 (I2 22 10 + 1), start _ (xp_X5_weigh_54_1 I2 J _ _ (by decide) z32), ⟨w3, ?_, w2, ?_, oth2⟩, fun q k a1 a2 a3 a4 a5 a6 a7 => ?_⟩
          · show I2 22 10 + 1 = _
            rw [e10, nI_1, cnt2]
          · rw [List.find?_append, hf]
            rw [hf] at V4
            exact fi2 _ V4
          · rw [lb_u_at (by omega)]
            exact w4 q k a1 a2 a3 (by omega)
    · have k2f : ¬ cb_k2 n p cs a = true := fun q => sm (cb_B_iff.mp q).2
      rw [cb_B_f sm] at start
      refine ⟨I2, start _ (xp_X5_weigh_54_0 I2 J _ _ rfl), ⟨w3, ?_, w2, ?_, oth2⟩, fun q k a1 a2 a3 a4 a5 a6 a7 => w4 q k a1 a2 a3 (by omega)⟩
      · rw [cb_countP1, if_neg k2f]; exact e10
      · rw [List.find?_append, List.find?_cons_of_neg k2f]
        have : (List.find? (cb_k2 n p cs) l).or none = List.find? (cb_k2 n p cs) l := by cases List.find? (cb_k2 n p cs) l <;> rfl
        rw [show List.find? (cb_k2 n p cs) ([] : List (List Nat)) = none from rfl, this]
        exact fi2 _ V4
  · rw [cb_B_f con] at hg
    have k1f : ¬ cb_k1 n p a = true := fun q => con (cb_B_iff.mp q)
    have k2f : ¬ cb_k2 n p cs a = true := fun q => con (cb_B_iff.mp q).1
    refine ⟨I, ik_cr_of (Nat.le_of_ble_eq_true rfl) (xp_X5_weigh_0_0 I J _ _ hg (xp_X5_weigh_7_1 I J _ _ rfl)), ⟨?_, ?_, ?_, ?_, V5⟩, fun _ _ _ _ _ _ _ _ _ => rfl⟩
    · rw [cb_countP1, if_neg k1f]; exact V1
    · rw [cb_countP1, if_neg k2f]; exact V2
    · rw [cb_lk1, if_neg k1f, Nat.add_zero]; exact V3
    · rw [List.find?_append, List.find?_cons_of_neg k2f]
      have : (List.find? (cb_k2 n p cs) l).or none = List.find? (cb_k2 n p cs) l := by cases List.find? (cb_k2 n p cs) l <;> rfl
      rw [show List.find? (cb_k2 n p cs) ([] : List (List Nat)) = none from rfl, this]
      exact V4
end CK1
