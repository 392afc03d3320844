/-! ===== closed boards: handles ===== -/
def cb_fp (n : Nat) (w : List Nat) : Bool := (List.range n).all (fun x => !(w.getD x 0 == x))
def cb_dvk (n : Nat) : Bool := (cb_T n).all (fun w1 => !(cb_fp n w1) || (cb_T n).all (fun w2 => !(cb_fp n w2) || (!((List.range n).all (fun x => cb_lw w1 w2 x n 1 x == cb_lw w1 w2 0 n 1 0)) || n % (2 * cb_lw w1 w2 0 n 1 0) == 0)))
set_option maxRecDepth 100000 in
theorem cb_dvks : ∀ n, n < 7 → cb_dvk n = true := by decide +kernel
theorem cb_dv {n i j c : Nat} (hn1 : 1 ≤ n) (hn : n < 7) (hi : i < cb_q n) (hj : j < cb_q n) (f1 : ∀ x, x < n → cb_r n i x ≠ x) (f2 : ∀ x, x < n → cb_r n j x ≠ x) (hl : ∀ x, x < n → cb_lap n i j x = c) : n % (2 * c) = 0 := by
  have h := cb_dvks n hn
  unfold cb_dvk at h
  have fp : ∀ k, (∀ x, x < n → cb_r n k x ≠ x) → cb_fp n ((cb_T n).getD k []) = true := fun k hk => List.all_eq_true.mpr (fun x hx => by
    rw [Bool.not_eq_true', beq_eq_false_iff_ne]
    exact hk x (List.mem_range.mp hx))
  have h1 := List.all_eq_true.mp h _ (cb_mem hi)
  rw [fp i f1, Bool.not_true, Bool.false_or] at h1
  have h2 := List.all_eq_true.mp h1 _ (cb_mem hj)
  rw [fp j f2, Bool.not_true, Bool.false_or] at h2
  have h3 : (List.range n).all (fun x => cb_lw ((cb_T n).getD i []) ((cb_T n).getD j []) x n 1 x == cb_lw ((cb_T n).getD i []) ((cb_T n).getD j []) 0 n 1 0) = true := List.all_eq_true.mpr (fun x hx => by
    rw [beq_iff_eq]
    exact (hl x (List.mem_range.mp hx)).trans (hl 0 (by omega)).symm)
  rw [h3, Bool.not_true, Bool.false_or, beq_iff_eq] at h2
  rw [← hl 0 (by omega)]
  exact h2
def cb_Qs (n : Nat) (cs : Nat → Nat) : Nat → Nat
  | 0 => 0
  | s + 1 => cb_Qs n cs s + n / (2 * cs s)
noncomputable def cb_hv (n p : Nat) (cs : Nat → Nat) (a : List Nat) : Int32 := if cb_B (cb_bip n p a ∧ ∀ s, s < p → cs s ≠ 0) then nI ((2 + n * p / 2 - n - cb_Qs n cs p) / 2) else -1
theorem cb_Qs_le {n p : Nat} {cs : Nat → Nat} (hcs : ∀ j, j < p → cs j < 10 ∧ cs j ≠ 1) (h0 : ∀ s, s < p → cs s ≠ 0) : ∀ s, s ≤ p → cb_Qs n cs s ≤ s * (n / 4) := by
  intro s
  induction s with
  | zero => intro _; exact Nat.zero_le _
  | succ s ih =>
    intro hs
    have h1 := ih (by omega)
    have hc := h0 s (by omega)
    have hc1 := (hcs s (by omega)).2
    have h2 : n / (2 * cs s) ≤ n / 4 := Nat.div_le_div_left (by omega) (by decide)
    show cb_Qs n cs s + n / (2 * cs s) ≤ (s + 1) * (n / 4)
    rw [show (s + 1) * (n / 4) = s * (n / 4) + n / 4 from Nat.succ_mul s (n / 4)]
    omega
theorem cb_hbd : ∀ n : Fin 7, ∀ p : Fin 9, 3 ≤ p.1 → n.1 + p.1 * (n.1 / 4) ≤ 2 + n.1 * p.1 / 2 := by decide
section CHa
variable {X : ij_R} {d n p : Nat} {b : Bool} {J : Nat → Nat → Int64} {cs : Nat → Nat} {a : List Nat}
theorem lx_handles {I : Nat → Nat → Int32} (hn : n < 7) (hp3 : 3 ≤ p) (hp : p ≤ 8) (hcs : ∀ j, j < p → cs j < 10 ∧ cs j ≠ 1) (hal : a.length = p) (hok : cb_ok n p a) (hcn : cb_cn n p a) (h0 : 0 < n) (hx : cb_xs n p cs I) (hc : cb_ch a I) : ∃ I' : Nat → Nat → Int32, lk_cx1 X (d + 5) 21 [.ref 28] (xk_R b, I, J) (some (.int (cb_hv n p cs a))) (xk_R b, I', J) ∧ ∀ q, q ≠ 33 → I' q = I q := by
  obtain ⟨I', g, z1, z2, z3, z4, z5⟩ := lx_sorts (X := X) (d := d) (b := b) (J := J) hn hp hal hok hcn h0 hx hc
  have hx' : cb_xs n p cs I' := cb_xs_fX (s := 0) ⟨fun q k _ _ _ _ a5 _ _ _ _ => congrFun (z5 q a5) k, fun k hk => absurd hk (Nat.not_lt_zero k), fun y _ => congrFun (z5 30 (by decide)) y⟩ hx
  have hc' : cb_ch a I' := by unfold cb_ch; rw [z5 29 (by decide)]; exact hc
  have sa := lx_sortsApart (X := X) (d := d + 1) (b := b) (J := J) hn hp hal hok hx' hc' z2 z3 z4 h0
  refine ⟨I', ik_cr_of (Nat.le_of_ble_eq_true rfl) (xp_X1_handles_0_0 I J z1 (xp_X1_handles_4_0 I' J _ sa ?_)), z5⟩
  by_cases bip : cb_bip n p a
  · rw [cb_B_t bip, if_pos rfl]
    refine xp_X1_handles_8_0 I' J 1 (by decide) (by decide) ?_
    have hbd0 := cb_hbd ⟨n, by omega⟩ ⟨p, by omega⟩ hp3
    have hbd : n + p * (n / 4) ≤ 2 + n * p / 2 := hbd0
    have np48 : n * p ≤ 6 * 8 := Nat.mul_le_mul (by omega) hp
    have e0 : (2 : Int32) - I' 28 7 + I' 28 7 * I' 6 8 / 2 = nI (2 + n * p / 2 - n - cb_Qs n cs 0) := by
      rw [hx'.2, hx'.1.2.1, pk_mul, show (2 : Int32) = nI 2 from rfl, pk_div (by omega) (by decide) (by decide)]
      rw [Int32.sub_eq_add_neg, Int32.add_assoc, Int32.add_comm (-nI n), ← Int32.add_assoc, ← Int32.sub_eq_add_neg, show nI 2 + nI (n * p / 2) = nI (2 + n * p / 2) from (Int32.ofNat_add _ _).symm, pk_sub (by omega)]
      rfl
    rw [e0]
    -- the corners
    have loop : ∀ (r s : Nat), s + r = p → (∀ s', s' < s → cs s' ≠ 0) → xk_go (ik_cr xk_P xk_M xk_Y xk_K X (d + 4)) 21 (37, [some (.ref 28), some (.int (nI (2 + n * p / 2 - n - cb_Qs n cs s))), some (.int (nI s)), none], [], (xk_R b, I', J)) (some (.int (cb_hv n p cs a))) (xk_R b, I', J) := by
      intro r
      induction r with
      | zero =>
        intro s hs h
        have : s = p := by omega
        subst this
        have : cb_hv n s cs a = nI ((2 + n * s / 2 - n - cb_Qs n cs s) / 2) := by
          unfold cb_hv
          rw [cb_B_t ⟨bip, h⟩, if_pos rfl]
        rw [this]
        have q := xp_X1_handles_37_0 (C := ik_cr xk_P xk_M xk_Y xk_K X (d + 4)) (b := b) I' J (nI (2 + n * s / 2 - n - cb_Qs n cs s)) (nI s) (by rw [hx'.1.2.1]; exact nI_le (Nat.le_refl s) (by omega)) (by decide)
        rw [show (2 : Int32) = nI 2 from rfl, pk_div (by omega) (by decide) (by decide)] at q
        exact q
      | succ r ih =>
        intro s hs h
        have cs10 := (hcs s (by omega)).1
        refine xp_X1_handles_37_1 I' J _ _ _ (by rw [hx'.1.2.1]; exact nI_ge (by omega) (by omega)) (lx_cornerB (d := d + 3) hp hx'.1.2.2 (by omega)) ?_
        by_cases e : cs s = 0
        · have : cb_hv n p cs a = -1 := by
            unfold cb_hv
            rw [cb_B_f (fun q => q.2 s (by omega) e)]
            rfl
          rw [this]
          exact xp_X1_handles_56_1 I' J _ _ _ (by rw [e]; rfl)
        · have e2 : (2 : Int32) * nI (cs s) = nI (2 * cs s) := by rw [show (2 : Int32) = nI 2 from rfl, pk_mul]
          have q := xp_X1_handles_56_0 (C := ik_cr xk_P xk_M xk_Y xk_K X (d + 4)) (v := some (.int (cb_hv n p cs a))) (τ := (xk_R b, I', J)) (b := b) I' J (nI (2 + n * p / 2 - n - cb_Qs n cs s)) (nI s) (nI (cs s)) (nI_ne0 (by omega) (by omega))
          have hQ : cb_Qs n cs s ≤ s * (n / 4) := cb_Qs_le (p := s) (fun j hj => hcs j (by omega)) h s (Nat.le_refl s)
          have h2 : n / (2 * cs s) ≤ n / 4 := Nat.div_le_div_left (by have := (hcs s (by omega)).2; omega) (by decide)
          have h3 : (s + 1) * (n / 4) ≤ p * (n / 4) := Nat.mul_le_mul_right _ (by omega)
          rw [Nat.succ_mul] at h3
          rw [e2, hx'.2, pk_div (by omega) (by omega) (by omega), pk_sub (by omega), nI_1] at q
          refine q (nI_ne0 (by omega) (by omega)) ?_
          have k := ih (s + 1) (by omega) (fun s' hs' => by
            by_cases es : s' = s
            · rw [es]; exact e
            · exact h s' (by omega))
          rw [show 2 + n * p / 2 - n - cb_Qs n cs s - n / (2 * cs s) = 2 + n * p / 2 - n - cb_Qs n cs (s + 1) from by
            show _ = 2 + n * p / 2 - n - (cb_Qs n cs s + n / (2 * cs s))
            omega]
          exact k
    exact loop p 0 (Nat.zero_add p) (fun s' hs' => absurd hs' (Nat.not_lt_zero s'))
  · rw [cb_B_f bip]
    have : cb_hv n p cs a = -1 := by
      unfold cb_hv
      rw [cb_B_f (fun q => bip q.1)]
      rfl
    rw [this]
    exact xp_X1_handles_8_1 I' J 0 rfl
/-! the reference -/
/-- each tile but the first is met from one ahead -/
def cb_pa (n p : Nat) (a o : List Nat) : Prop := ∀ m, 1 ≤ m → m < o.length → ∃ j s, j < m ∧ s < p ∧ cb_b n a s (o.getD j 0) = o.getD m 0
theorem cb_pa_app {o : List Nat} {y k s : Nat} (h : cb_pa n p a o) (hk : k < o.length) (hs : s < p) (e : cb_b n a s (o.getD k 0) = y) : cb_pa n p a (o ++ [y]) := fun m h1 h2 => by
  rw [List.length_append] at h2
  have h2' : m < o.length + 1 := h2
  have gl : ∀ i, i < o.length → (o ++ [y]).getD i 0 = o.getD i 0 := fun i hi => by rw [List.getD_eq_getElem?_getD, List.getElem?_append_left hi, ← List.getD_eq_getElem?_getD]
  by_cases em : m = o.length
  · subst em
    refine ⟨k, s, hk, hs, ?_⟩
    rw [gl k hk, e, List.getD_eq_getElem?_getD, List.getElem?_append_right (Nat.le_refl _), Nat.sub_self]
    rfl
  · obtain ⟨j, r, q1, q2, q3⟩ := h m h1 (by omega)
    exact ⟨j, r, q1, q2, by rw [gl j (by omega), gl m (by omega)]; exact q3⟩
theorem cb_in_pa {t k : Nat} : ∀ (l o : List Nat), (∀ s, s ∈ l → s < p) → k < o.length → o.getD k 0 = t → cb_pa n p a o → cb_pa n p a (cb_in n a t l o) := by
  intro l
  induction l with
  | nil => intro o _ _ _ h; exact h
  | cons s l ih =>
    intro o hl hk ht h
    show cb_pa n p a (cb_in n a t l (if _ then _ else _))
    by_cases e : cb_b n a s t ∈ o
    · rw [if_pos e]; exact ih o (fun r hr => hl r (List.mem_cons_of_mem _ hr)) hk ht h
    · rw [if_neg e]
      refine ih _ (fun r hr => hl r (List.mem_cons_of_mem _ hr)) (by rw [List.length_append]; omega) ?_ (cb_pa_app h hk (hl s (List.mem_cons_self ..)) (by rw [ht]))
      rw [List.getD_eq_getElem?_getD, List.getElem?_append_left hk, ← List.getD_eq_getElem?_getD]
      exact ht
theorem cb_bf_pa : ∀ (f k : Nat) (o : List Nat), cb_pa n p a o → cb_pa n p a (cb_bf n p a f k o) := by
  intro f
  induction f with
  | zero => intro k o h; exact h
  | succ f ih =>
    intro k o h
    show cb_pa n p a (if k < o.length then _ else o)
    by_cases e : k < o.length
    · rw [if_pos e]
      exact ih (k + 1) _ (cb_in_pa (k := k) _ o (fun s hs => List.mem_range.mp hs) e rfl h)
    · rw [if_neg e]; exact h
theorem cb_od_pa (x : Nat) : cb_pa n p a (cb_od n p a x) := cb_bf_pa (n + 1) 0 [x] (fun m h1 h2 => by have : m < 1 := h2; omega)
/-- y lies across from a tile that is met ahead of place (k, s) -/
def cb_H (n p : Nat) (a o : List Nat) (k s y : Nat) : Prop := ∃ j r, r < p ∧ j < n ∧ (j < k ∨ j = k ∧ r < s) ∧ cb_b n a r (o.getD j 0) = y
theorem rs_isFirst {I : Nat → Nat → Int32} {k s : Nat} (hn : n < 7) (hp : p ≤ 8) (hal : a.length = p) (hok : cb_ok n p a) (hcn : cb_cn n p a) (h0 : 0 < n) (hc : cb_cx n p cs I) (hat : cb_at a I) (ht : cb_tn n (cb_od n p a 0) I) (hk : k < n) (hs : s < p) : rk_call (d + 2) 65 [.ref 0, .int (nI k), .int (nI s)] (rk_R, I, J) (some (.int (if cb_B (cb_H n p a (cb_od n p a 0) k s (cb_b n a s ((cb_od n p a 0).getD k 0))) then 0 else 1))) (rk_R, I, J) := by
  obtain ⟨o1, -, -⟩ := cb_o_all hn hok hcn h0
  have hl := cb_con_full hn hok hcn h0
  have go : ∀ r j, r < p → j < n → rk_call (d + 1) 56 [.ref 0, .int (nI r), .int (I 33 j)] (rk_R, I, J) (some (.int (nI (cb_b n a r ((cb_od n p a 0).getD j 0))))) (rk_R, I, J) := fun r j hr hj => by
    rw [ht.2 j (by omega)]
    exact rs_go (d := d) hn hc.1 (by omega) (hat r (by omega)) (hok r hr) (o1 j hj).1
  have hbl : ∀ r j, r < p → j < n → cb_b n a r ((cb_od n p a 0).getD j 0) < n := fun r j hr hj => cb_b_lt hn hok hr (o1 j hj).1
  -- from (j, r) on, nothing ahead
  have loop24 : ∀ (j : Nat), j ≤ k → ((∀ j' r', r' < p → j' < n → (j' < j + 1) → (j' < k ∨ j' = k ∧ r' < s) → cb_b n a r' ((cb_od n p a 0).getD j' 0) ≠ cb_b n a s ((cb_od n p a 0).getD k 0)) → j + 1 ≤ k → rk_go (rk_call (d + 1)) 65 (15, [some (.ref 0), some (.int (nI k)), some (.int (nI s)), some (.int (nI (cb_b n a s ((cb_od n p a 0).getD k 0)))), some (.int (nI (j + 1))), none], [], (rk_R, I, J)) (some (.int (if cb_B (cb_H n p a (cb_od n p a 0) k s (cb_b n a s ((cb_od n p a 0).getD k 0))) then 0 else 1))) (rk_R, I, J)) → (∀ j' r', r' < p → j' < n → j' < j → (j' < k ∨ j' = k ∧ r' < s) → cb_b n a r' ((cb_od n p a 0).getD j' 0) ≠ cb_b n a s ((cb_od n p a 0).getD k 0)) → ∀ (e r : Nat), r + e = p → (∀ r', r' < r → cb_b n a r' ((cb_od n p a 0).getD j 0) ≠ cb_b n a s ((cb_od n p a 0).getD k 0)) → (j = k → r ≤ s) → rk_go (rk_call (d + 1)) 65 (24, [some (.ref 0), some (.int (nI k)), some (.int (nI s)), some (.int (nI (cb_b n a s ((cb_od n p a 0).getD k 0)))), some (.int (nI j)), some (.int (nI r))], [], (rk_R, I, J)) (some (.int (if cb_B (cb_H n p a (cb_od n p a 0) k s (cb_b n a s ((cb_od n p a 0).getD k 0))) then 0 else 1))) (rk_R, I, J) := by
    intro j hj nxt hbef e
    induction e with
    | zero =>
      intro r hr hrb hjk
      have : r = p := by omega
      subst this
      have hlt : j < k := by
        by_cases ejk : j = k
        · exact absurd (hjk ejk) (by omega)
        · omega
      refine rp_isFirstBy_24_0 I J _ _ _ _ _ (by rw [hc.2.1]; exact nI_le (Nat.le_refl r) (by omega)) ?_
      rw [nI_1]
      exact nxt (fun j' r' h1 h2 h3 h4 => by
        by_cases ej : j' = j
        · rw [ej]; exact hrb r' h1
        · exact hbef j' r' h1 h2 (by omega) h4) (by omega)
    | succ e ih =>
      intro r hr hrb hjk
      have hrp : r < p := by omega
      have q := rp_isFirstBy_24_1 (C := rk_call (d + 1)) (v := some (.int (if cb_B (cb_H n p a (cb_od n p a 0) k s (cb_b n a s ((cb_od n p a 0).getD k 0))) then 0 else 1))) (τ := (rk_R, I, J)) (I' := I) (J' := J) I J (nI k) (nI s) (nI (cb_b n a s ((cb_od n p a 0).getD k 0))) (nI j) (nI r) (by rw [hc.2.1]; exact nI_ge (by omega) (by omega)) (vp_in_nI (by omega) (by decide)) (nI (cb_b n a r ((cb_od n p a 0).getD j 0)))
      rw [nI_clamp (by omega)] at q
      refine q (go r j hrp (by omega)) ?_
      have l1 := hbl r j hrp (by omega)
      have l2 := hbl s k hs hk
      by_cases eq : cb_b n a r ((cb_od n p a 0).getD j 0) = cb_b n a s ((cb_od n p a 0).getD k 0)
      · by_cases ejk : j = k
        · by_cases ers : r = s
          · have nh : ¬ cb_H n p a (cb_od n p a 0) k s (cb_b n a s ((cb_od n p a 0).getD k 0)) := by
              rintro ⟨j', r', h1, h2, h3, h4⟩
              by_cases hlt : j' < j
              · exact hbef j' r' h1 h2 hlt h3 h4
              · have e1 : j' = j := by omega
                have e2 : r' < r := by omega
                rw [e1] at h4
                exact hrb r' e2 h4
            rw [cb_B_f nh]
            exact rp_isFirstBy_46_3 I J _ _ _ _ _ _ (by rw [eq]) (by rw [ejk]) (by rw [ers])
          · have hh : cb_H n p a (cb_od n p a 0) k s (cb_b n a s ((cb_od n p a 0).getD k 0)) := ⟨j, r, hrp, by omega, Or.inr ⟨ejk, by have := hjk ejk; omega⟩, eq⟩
            rw [cb_B_t hh, if_pos rfl]
            exact rp_isFirstBy_46_2 I J _ _ _ _ _ _ (by rw [eq]) (by rw [ejk]) (fun q => ers ((nI_eq (by omega) (by omega)).mp q))
        · have hh : cb_H n p a (cb_od n p a 0) k s (cb_b n a s ((cb_od n p a 0).getD k 0)) := ⟨j, r, hrp, by omega, Or.inl (by omega), eq⟩
          rw [cb_B_t hh, if_pos rfl]
          exact rp_isFirstBy_46_1 I J _ _ _ _ _ _ (by rw [eq]) (fun q => ejk ((nI_eq (by omega) (by omega)).mp q))
      · refine rp_isFirstBy_46_0 I J _ _ _ _ _ _ (fun q => eq ((nI_eq (by omega) (by omega)).mp q)) ?_
        rw [nI_1]
        refine ih (r + 1) (by omega) (fun r' hr' => ?_) (fun ejk => ?_)
        · by_cases er : r' = r
          · rw [er]; exact eq
          · exact hrb r' (by omega)
        · have := hjk ejk
          have : r ≠ s := fun z => eq (by rw [z, ejk])
          omega
  have loop15 : ∀ (e j : Nat), j + e = k → (∀ j' r', r' < p → j' < n → j' < j → (j' < k ∨ j' = k ∧ r' < s) → cb_b n a r' ((cb_od n p a 0).getD j' 0) ≠ cb_b n a s ((cb_od n p a 0).getD k 0)) → rk_go (rk_call (d + 1)) 65 (15, [some (.ref 0), some (.int (nI k)), some (.int (nI s)), some (.int (nI (cb_b n a s ((cb_od n p a 0).getD k 0)))), some (.int (nI j)), none], [], (rk_R, I, J)) (some (.int (if cb_B (cb_H n p a (cb_od n p a 0) k s (cb_b n a s ((cb_od n p a 0).getD k 0))) then 0 else 1))) (rk_R, I, J) := by
    intro e
    induction e with
    | zero =>
      intro j hj h
      exact rp_isFirstBy_15_1 I J _ _ _ _ (nI_nlt (by omega) (by omega)) (loop24 j (by omega) (fun _ q => absurd q (by omega)) h p 0 (Nat.zero_add p) (fun r' hr' => absurd hr' (Nat.not_lt_zero r')) (fun _ => Nat.zero_le s))
    | succ e ih =>
      intro j hj h
      exact rp_isFirstBy_15_1 I J _ _ _ _ (nI_nlt (by omega) (by omega)) (loop24 j (by omega) (fun q _ => ih (j + 1) (by omega) (fun j' r' h1 h2 h3 h4 => q j' r' h1 h2 h3 h4)) h p 0 (Nat.zero_add p) (fun r' hr' => absurd hr' (Nat.not_lt_zero r')) (fun _ => Nat.zero_le s))
  have q := rp_isFirstBy_0_0 (C := rk_call (d + 1)) (v := some (.int (if cb_B (cb_H n p a (cb_od n p a 0) k s (cb_b n a s ((cb_od n p a 0).getD k 0))) then 0 else 1))) (τ := (rk_R, I, J)) (I' := I) (J' := J) I J (nI k) (nI s) (vp_in_nI (by omega) (by decide)) (nI (cb_b n a s ((cb_od n p a 0).getD k 0)))
  rw [nI_clamp (by omega)] at q
  exact ij_cr_of (Nat.le_of_ble_eq_true rfl) (q (go s k hs hk) (rp_isFirstBy_11_0 I J _ _ _ (loop15 k 0 (Nat.zero_add k) (fun j' r' _ _ h => absurd h (Nat.not_lt_zero j')))))
end CHa
