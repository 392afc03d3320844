/-! ===== closed boards: the class lists the rows ===== -/
/-- a partner, 9: none -/
def cb_e (y : Nat) : Int32 := if y = 9 then -1 else nI y
theorem cb_e_lt {y : Nat} (h : y < 9) : cb_e y = nI y := if_neg (by omega)
theorem cb_e9 : cb_e 9 = -1 := rfl
theorem cb_e_m1 {y : Nat} (h : y < 10) : cb_e y = -1 ↔ y = 9 := by
  unfold cb_e
  by_cases e : y = 9
  · rw [if_pos e]; exact ⟨fun _ => e, fun _ => rfl⟩
  · rw [if_neg e]; exact ⟨fun q => absurd q (nI_ne_m1 (by omega)), fun q => absurd q e⟩
theorem cb_e_eq {y x : Nat} (h : y < 10) (hx : x < 9) : cb_e y = nI x ↔ y = x := by
  unfold cb_e
  by_cases e : y = 9
  · rw [if_pos e]; exact ⟨fun q => absurd q.symm (nI_ne_m1 (by omega)), fun q => by omega⟩
  · rw [if_neg e]; exact nI_eq (by omega) (by omega)
def cb_first (π : Nat → Nat) (n : Nat) : Nat → Nat → Nat
  | 0, t => t
  | f + 1, t => if t < n then (if π t = 9 then t else cb_first π n f (t + 1)) else t
def cb_up (π : Nat → Nat) (t o : Nat) : Nat → Nat := fun x => if x = o then t else if x = t then o else π x
def cb_pu (n : Nat) : Nat → (Nat → Nat) → Nat → List (List Nat)
  | 0, _, _ => []
  | f + 1, π, fr => if n ≤ cb_first π n 7 fr then [(List.range 6).map π] else (List.range n).flatMap (fun o => if cb_first π n 7 fr ≤ o ∧ π o = 9 then cb_pu n f (cb_up π (cb_first π n 7 fr) o) (cb_first π n 7 fr + 1) else [])
set_option maxRecDepth 100000 in
theorem cb_pus : ∀ n, n < 7 → 1 ≤ n → cb_pu n 7 (fun _ => 9) 0 = (cb_T n).map (fun w => w ++ List.replicate (6 - n) 9) := by decide +kernel
def cb_al (π : Nat → Nat) (j : Nat) : Int32 := if (List.range j).any (fun x => π x == x) then 1 else 0
theorem cb_al_s (π : Nat → Nat) (j : Nat) : cb_al π (j + 1) = if π j = j then 1 else cb_al π j := by
  unfold cb_al
  rw [List.range_succ, List.any_append]
  by_cases e : π j = j
  · rw [if_pos e, if_pos (by simp [e])]
  · rw [if_neg e]
    have : [j].any (fun x => π x == x) = false := by simp [e]
    rw [this, Bool.or_false]
theorem cb_al_01 (π : Nat → Nat) (j : Nat) : cb_al π j = 0 ∨ cb_al π j = 1 := by
  unfold cb_al
  by_cases e : (List.range j).any (fun x => π x == x) = true
  · rw [if_pos e]; exact Or.inr rfl
  · rw [if_neg e]; exact Or.inl rfl
/-- rows as the class holds them -/
def cb_xr (acc : List (List Nat)) (I : Nat → Nat → Int32) : Prop := I 23 5 = nI acc.length ∧ ∀ i, i < acc.length → (∀ x, x < 6 → I 24 (6 * i + x) = cb_e ((acc.getD i []).getD x 0)) ∧ I 26 i = cb_al (fun x => (acc.getD i []).getD x 0) 6
def cb_xp (π : Nat → Nat) (I : Nat → Nat → Int32) : Prop := ∀ x, x < 6 → I 27 x = cb_e (π x) ∧ π x < 10
section CB2
variable {X : ij_R} {d n : Nat} {b : Bool} {J : Nat → Nat → Int64}
theorem lx_wr49 {C : ij_R} {k : Nat} {π : Nat → Nat} (hk : k < 76) : ∀ (r j : Nat) (I : Nat → Nat → Int32), j + r = 6 → I 23 5 = nI k → cb_xp π I → I 26 k = cb_al π j → ∃ I' : Nat → Nat → Int32, xk_go C 75 (49, [some (.ref 23), some (.int (nI (6 * k))), some (.int (nI j))], [], (xk_R b, I, J)) none (xk_R b, I', J) ∧ (∀ x, j ≤ x → x < 6 → I' 24 (6 * k + x) = cb_e (π x)) ∧ (∀ y, (y < 6 * k + j ∨ 6 * k + 6 ≤ y) → I' 24 y = I 24 y) ∧ I' 26 k = cb_al π 6 ∧ (∀ y, y ≠ k → I' 26 y = I 26 y) ∧ I' 23 5 = nI (k + 1) ∧ ∀ p y, p ≠ 24 → p ≠ 26 → ¬ (p = 23 ∧ y = 5) → I' p y = I p y := by
  intro r
  induction r with
  | zero =>
    intro j I hj h5 hp h26
    have : j = 6 := by omega
    subst this
    refine ⟨ij_u I 23 5 (I 23 5 + 1), xp_X4_writeRow_49_0 I J _ _ (by decide) (by decide), fun x h1 h2 => by omega, fun _ _ => rfl, h26, fun _ _ => rfl, ?_, fun p y _ _ h => lb_u_at h⟩
    show I 23 5 + 1 = _
    rw [h5, nI_1]
  | succ r ih =>
    intro j I hj h5 hp h26
    have cl : (nI j).toNatClampNeg = j := nI_clamp (by omega)
    have clk : (nI k).toNatClampNeg = k := nI_clamp (by omega)
    have e6 : nI (6 * k) + nI j = nI (6 * k + j) := (Int32.ofNat_add _ _).symm
    have cl6 : (nI (6 * k + j)).toNatClampNeg = 6 * k + j := nI_clamp (by omega)
    have hj6 : ¬ (6 : Int32) ≤ nI j := nI_ge (b := 6) (by omega) (by decide)
    have vj : vp_in (nI j) 6 := vp_in_nI (by omega) (by decide)
    have vk : vp_in (I 23 5) 76 := by rw [h5]; exact vp_in_nI hk (by decide)
    have v6 : vp_in (nI (6 * k) + nI j) 456 := by rw [e6]; exact vp_in_nI (by omega) (by decide)
    obtain ⟨ej, lj⟩ := hp j (by omega)
    have fin : ∀ a : Int32, a = cb_al π (j + 1) → (∀ I', xk_go C 75 (49, [some (.ref 23), some (.int (nI (6 * k))), some (.int (nI (j + 1)))], [], (xk_R b, ij_u (ij_u I 24 (6 * k + j) (I 27 j)) 26 k a, J)) none (xk_R b, I', J) → xk_go C 75 (49, [some (.ref 23), some (.int (nI (6 * k))), some (.int (nI j))], [], (xk_R b, I, J)) none (xk_R b, I', J)) → ∃ I' : Nat → Nat → Int32, xk_go C 75 (49, [some (.ref 23), some (.int (nI (6 * k))), some (.int (nI j))], [], (xk_R b, I, J)) none (xk_R b, I', J) ∧ (∀ x, j ≤ x → x < 6 → I' 24 (6 * k + x) = cb_e (π x)) ∧ (∀ y, (y < 6 * k + j ∨ 6 * k + 6 ≤ y) → I' 24 y = I 24 y) ∧ I' 26 k = cb_al π 6 ∧ (∀ y, y ≠ k → I' 26 y = I 26 y) ∧ I' 23 5 = nI (k + 1) ∧ ∀ p y, p ≠ 24 → p ≠ 26 → ¬ (p = 23 ∧ y = 5) → I' p y = I p y := by
      intro a ha hgo
      obtain ⟨I', g1, g2, g3, g4, g5, g6, g7⟩ := ih (j + 1) (ij_u (ij_u I 24 (6 * k + j) (I 27 j)) 26 k a) (by omega) h5 hp ((ij_u_same _ _ _ _).trans ha)
      refine ⟨I', hgo I' g1, fun x h1 h2 => ?_, fun y hy => ?_, g4, fun y hy => ?_, g6, fun p y h1 h2 h3 => ?_⟩
      · by_cases e : x = j
        · subst e
          rw [g3 _ (by omega), congrFun (ij_u_ne (by decide)) _, ij_u_same, ej]
        · exact g2 x (by omega) h2
      · rw [g3 y (by omega), congrFun (ij_u_ne (by decide)) _]
        exact ij_u_other _ _ _ _ (by omega)
      · rw [g5 y hy, ij_u_other _ _ _ _ hy]
        exact congrFun (ij_u_ne (by decide)) _
      · rw [g7 p y h1 h2 h3, lb_u_at (fun e => h2 e.1), lb_u_at (fun e => h1 e.1)]
    by_cases e : π j = j
    · refine fin (vp_nar .boolean (I 26 k ||| 1)) ?_ (fun I' hg => ?_)
      · rw [cb_al_s, if_pos e, h26]
        rcases cb_al_01 π j with q | q <;> rw [q] <;> rfl
      · have q := xp_X4_writeRow_49_3 (C := C) (v := none) (τ := (xk_R b, I', J)) (b := b) I J (nI (6 * k)) (nI j) (by decide) hj6 hj6 vj v6 vk vj (by rw [cl, ej, e]; exact cb_e_lt (by omega)) vk
        rw [e6, cl, cl6, h5, clk, nI_1] at q
        exact q hg
    · refine fin (vp_nar .boolean (I 26 k ||| 0)) ?_ (fun I' hg => ?_)
      · rw [cb_al_s, if_neg e, h26]
        rcases cb_al_01 π j with q | q <;> rw [q] <;> rfl
      · have q := xp_X4_writeRow_49_2 (C := C) (v := none) (τ := (xk_R b, I', J)) (b := b) I J (nI (6 * k)) (nI j) (by decide) hj6 hj6 vj v6 vk vj (by rw [cl, ej]; exact fun q => e ((cb_e_eq lj (by omega)).mp q)) vk
        rw [e6, cl, cl6, h5, clk, nI_1] at q
        exact q hg
theorem lx_writeRow {acc : List (List Nat)} {π : Nat → Nat} (I : Nat → Nat → Int32) (hk : acc.length < 76) (hr : cb_xr acc I) (hp : cb_xp π I) : ∃ I' : Nat → Nat → Int32, lk_cx1 X (d + 1) 75 [.ref 23] (xk_R b, I, J) none (xk_R b, I', J) ∧ cb_xr (acc ++ [(List.range 6).map π]) I' ∧ ∀ p y, p ≠ 24 → p ≠ 26 → ¬ (p = 23 ∧ y = 5) → I' p y = I p y := by
  have clk : (nI acc.length).toNatClampNeg = acc.length := nI_clamp (by omega)
  have e6 : nI acc.length * 6 = nI (6 * acc.length) := by
    rw [show (6 : Int32) = nI 6 from rfl, pk_mul, Nat.mul_comm]
  obtain ⟨I', g1, g2, g3, g4, g5, g6, g7⟩ := lx_wr49 (C := ik_cr xk_P xk_M xk_Y xk_K X d) (b := b) (J := J) (k := acc.length) (π := π) hk 6 0 (ij_u I 26 acc.length (vp_nar .boolean 0)) rfl hr.1 hp (ij_u_same _ _ _ _)
  refine ⟨I', ik_cr_of (Nat.le_of_ble_eq_true rfl) ?_, ⟨by rw [g6, List.length_append]; rfl, fun i hi => ?_⟩, fun p y h1 h2 h3 => (g7 p y h1 h2 h3).trans (lb_u_at (fun e => h2 e.1))⟩
  · have q := xp_X4_writeRow_0_2 (C := ik_cr xk_P xk_M xk_Y xk_K X d) (v := none) (τ := (xk_R b, I', J)) (b := b) I J
    rw [hr.1, e6, clk] at q
    refine q (nI_pos (by omega)) (by decide) ?_ (by decide) (nI_lt (b := 76) hk (by decide)) (vp_in_nI hk (by decide)) g1
    rw [show nI (6 * acc.length) + 6 = nI (6 * acc.length + 6) from (Int32.ofNat_add _ _).symm]
    exact nI_nlt (a := 456) (by omega) (by decide)
  · rw [List.length_append] at hi
    have hi' : i < acc.length + 1 := hi
    by_cases e : i = acc.length
    · subst e
      have eg : (acc ++ [(List.range 6).map π]).getD acc.length [] = (List.range 6).map π := by
        rw [List.getD_eq_getElem?_getD, List.getElem?_append_right (Nat.le_refl _), Nat.sub_self]
        rfl
      have ex : ∀ x, x < 6 → ((List.range 6).map π).getD x 0 = π x := fun x hx => by
        rw [cb_getD _ _ (by rw [List.length_map, List.length_range]; exact hx), List.getElem_map, List.getElem_range]
      rw [eg]
      refine ⟨fun x hx => by rw [g2 x (Nat.zero_le x) hx, ex x hx], ?_⟩
      rw [g4]
      unfold cb_al
      rw [show (List.range 6).any (fun x => π x == x) = (List.range 6).any (fun x => ((List.range 6).map π).getD x 0 == x) from by
        apply Bool.eq_iff_iff.mpr
        rw [List.any_eq_true, List.any_eq_true]
        constructor
        · rintro ⟨x, hx, h⟩
          exact ⟨x, hx, by rw [ex x (List.mem_range.mp hx)]; exact h⟩
        · rintro ⟨x, hx, h⟩
          exact ⟨x, hx, by rw [ex x (List.mem_range.mp hx)] at h; exact h⟩]
    · have eg : (acc ++ [(List.range 6).map π]).getD i [] = acc.getD i [] := by
        rw [List.getD_eq_getElem?_getD, List.getElem?_append_left (by omega), ← List.getD_eq_getElem?_getD]
      rw [eg]
      obtain ⟨q1, q2⟩ := hr.2 i (by omega)
      refine ⟨fun x hx => ?_, ?_⟩
      · rw [g3 _ (by omega), congrFun (ij_u_ne (by decide)) _]
        exact q1 x hx
      · rw [g5 i e, ij_u_other _ _ _ _ e]
        exact q2
theorem lx_partner {π : Nat → Nat} {I : Nat → Nat → Int32} (hp : cb_xp π I) {x : Nat} (hx : x < 6) : lk_cx1 X (d + 1) 73 [.ref 23, .int (nI x)] (xk_R b, I, J) (some (.int (cb_e (π x)))) (xk_R b, I, J) := by
  have q := xp_X4_partnerOf_0_2 (C := ik_cr xk_P xk_M xk_Y xk_K X d) (b := b) I J (nI x) (nI_pos (by omega)) (by decide) (nI_ge (b := 6) hx (by decide)) (vp_in_nI hx (by decide))
  rw [nI_clamp (by omega), (hp x hx).1] at q
  exact ik_cr_of (Nat.le_of_ble_eq_true rfl) q
theorem lx_setp {I : Nat → Nat → Int32} {t o : Nat} (ht : t < 6) (ho : o < 6) (u w : Int32) : lk_cx1 X (d + 1) 74 [.ref 23, .int (nI t), .int u, .int (nI o), .int w] (xk_R b, I, J) none (xk_R b, ij_u (ij_u I 27 t u) 27 o w, J) := by
  have q := xp_X4_setPartners_0_4 (C := ik_cr xk_P xk_M xk_Y xk_K X d) (b := b) I J (nI t) u (nI o) w (nI_pos (by omega)) (by decide) (nI_ge (b := 6) ht (by decide)) (nI_pos (by omega)) (by decide) (nI_ge (b := 6) ho (by decide)) (vp_in_nI ht (by decide)) (vp_in_nI ho (by decide))
  rw [nI_clamp (by omega), nI_clamp (by omega)] at q
  exact ik_cr_of (Nat.le_of_ble_eq_true rfl) q
/-- the first tile without a partner -/
theorem lx_pu2 {π : Nat → Nat} {I : Nat → Nat → Int32} {v : Option Value} {τ : ij_S} (hn6 : n ≤ 6) (h4 : I 23 4 = nI n) (hp : cb_xp π I) : ∀ (f t : Nat), t ≤ n → n < t + f → cb_first π n f t ≤ n ∧ t ≤ cb_first π n f t ∧ (cb_first π n f t < n → π (cb_first π n f t) = 9) ∧ ((n ≤ cb_first π n f t → ∃ Iw, ik_cr xk_P xk_M xk_Y xk_K X (d + 1) 75 [.ref 23] (xk_R b, I, J) none (xk_R b, Iw, J) ∧ xk_go (ik_cr xk_P xk_M xk_Y xk_K X (d + 1)) 72 (37, [none, none, none, none], [], (xk_R b, Iw, J)) v τ) → (cb_first π n f t < n → xk_go (ik_cr xk_P xk_M xk_Y xk_K X (d + 1)) 72 (40, [some (.ref 23), none, some (.int (nI (cb_first π n f t))), some (.int (nI (cb_first π n f t)))], [], (xk_R b, I, J)) v τ) → xk_go (ik_cr xk_P xk_M xk_Y xk_K X (d + 1)) 72 (2, [some (.ref 23), none, some (.int (nI t)), none], [], (xk_R b, I, J)) v τ) := by
  intro f
  induction f with
  | zero => intro t h1 h2; omega
  | succ f ih =>
    intro t h1 h2
    by_cases e : t < n
    · by_cases e9 : π t = 9
      · have ef : cb_first π n (f + 1) t = t := by
          show (if t < n then (if π t = 9 then t else _) else t) = t
          rw [if_pos e, if_pos e9]
        rw [ef]
        refine ⟨h1, Nat.le_refl t, fun _ => e9, fun _ hg => ?_⟩
        have hp' := lx_partner (X := X) (d := d) (b := b) (J := J) hp (x := t) (by omega)
        rw [e9, cb_e9] at hp'
        exact xp_X4_pairUp_2_2 I J (nI t) (-1) (by rw [h4]; exact nI_ge e (by omega)) hp' (xp_X4_pairUp_15_0 I J (nI t) (-1) rfl (by rw [h4]; exact nI_lt e (by omega)) (hg e))
      · have ef : cb_first π n (f + 1) t = cb_first π n f (t + 1) := by
          show (if t < n then (if π t = 9 then t else _) else t) = _
          rw [if_pos e, if_neg e9]
        rw [ef]
        obtain ⟨k1, k2, k3, k4⟩ := ih (t + 1) (by omega) (by omega)
        refine ⟨k1, by omega, k3, fun a c => ?_⟩
        have k := k4 a c
        rw [← nI_1] at k
        exact xp_X4_pairUp_2_2 I J (nI t) _ (by rw [h4]; exact nI_ge e (by omega)) (lx_partner (X := X) (d := d) (b := b) (J := J) hp (x := t) (by omega)) (xp_X4_pairUp_15_2 I J (nI t) _ (fun q => e9 ((cb_e_m1 (hp t (by omega)).2).mp q)) k)
    · have ef : cb_first π n (f + 1) t = t := by
        show (if t < n then _ else t) = t
        rw [if_neg e]
      rw [ef]
      refine ⟨h1, Nat.le_refl t, fun q => absurd q e, fun a _ => ?_⟩
      obtain ⟨Iw, a1, a2⟩ := a (by omega)
      exact xp_X4_pairUp_2_1 I J (nI t) (by rw [h4]; exact nI_le (by omega) (by omega)) (by rw [h4]; exact nI_nlt (by omega) (by omega)) a1 a2
/-- what listing leaves as it was -/
def cb_fx (I I' : Nat → Nat → Int32) : Prop := ∀ p y, p ≠ 24 → p ≠ 26 → ¬ (p = 23 ∧ y = 5) → ¬ (p = 27 ∧ y < 6) → I' p y = I p y
theorem cb_fx_trans {I I' I'' : Nat → Nat → Int32} (h : cb_fx I I') (h' : cb_fx I' I'') : cb_fx I I'' := fun p k a1 a2 a3 a4 => (h' p k a1 a2 a3 a4).trans (h p k a1 a2 a3 a4)
theorem cb_xp_up {π : Nat → Nat} {I : Nat → Nat → Int32} {t o : Nat} (hp : cb_xp π I) (ht : t < 6) (ho : o < 6) : cb_xp (cb_up π t o) (ij_u (ij_u I 27 t (nI o)) 27 o (nI t)) := fun x hx => by
  unfold cb_up
  by_cases e1 : x = o
  · subst e1
    rw [if_pos rfl, ij_u_same, cb_e_lt (by omega)]
    exact ⟨rfl, by omega⟩
  · rw [if_neg e1, ij_u_other _ _ _ _ e1]
    by_cases e2 : x = t
    · subst e2
      rw [if_pos rfl, ij_u_same, cb_e_lt (by omega)]
      exact ⟨rfl, by omega⟩
    · rw [if_neg e2, ij_u_other _ _ _ _ e2]
      exact hp x hx
theorem lx_pairUp (hn6 : n ≤ 6) : ∀ (f fr : Nat) (π : Nat → Nat) (acc : List (List Nat)) (I : Nat → Nat → Int32), fr ≤ n → n < fr + f → I 23 4 = nI n → cb_xp π I → cb_xr acc I → (acc ++ cb_pu n f π fr).length ≤ 76 → ∃ I' : Nat → Nat → Int32, lk_cx1 X (d + f + 1) 72 [.ref 23, .int (nI fr)] (xk_R b, I, J) none (xk_R b, I', J) ∧ cb_xr (acc ++ cb_pu n f π fr) I' ∧ cb_xp π I' ∧ cb_fx I I' := by
  intro f
  induction f with
  | zero => intro fr π acc I h1 h2; omega
  | succ f ih =>
    intro fr π acc I h1 h2 h4 hp hr hle
    have start : ∀ v τ, xk_go (ik_cr xk_P xk_M xk_Y xk_K X (d + (f + 1))) 72 (2, [some (.ref 23), none, some (.int (nI fr)), none], [], (xk_R b, I, J)) v τ → lk_cx1 X (d + (f + 1) + 1) 72 [.ref 23, .int (nI fr)] (xk_R b, I, J) v τ := fun v τ hg => ik_cr_of (Nat.le_of_ble_eq_true rfl) (xp_X4_pairUp_0_0 I J (nI fr) hg)
    have F : ∀ (v : Option Value) (τ : ij_S), _ := fun v τ => lx_pu2 (X := X) (d := d + f) (b := b) (J := J) (v := v) (τ := τ) hn6 h4 hp 7 fr h1 (by omega)
    have F0 := F none (xk_R b, I, J)
    by_cases e : n ≤ cb_first π n 7 fr
    · have epu : cb_pu n (f + 1) π fr = [(List.range 6).map π] := by
        show (if n ≤ cb_first π n 7 fr then _ else _) = _
        rw [if_pos e]
      rw [epu] at hle ⊢
      have hk : acc.length < 76 := by rw [List.length_append] at hle; exact hle
      obtain ⟨Iw, w1, w2, w3⟩ := lx_writeRow (X := X) (d := d + f) (b := b) (J := J) I hk hr hp
      refine ⟨Iw, start _ _ ((F _ _).2.2.2 (fun _ => ⟨Iw, w1, xp_X4_pairUp_37_0 Iw J⟩) (fun q => absurd q (by omega))), w2, fun x hx => ?_, fun p y a1 a2 a3 a4 => w3 p y a1 a2 a3⟩
      rw [w3 27 x (by decide) (by decide) (by omega)]
      exact hp x hx
    · have hlt : cb_first π n 7 fr < n := by omega
      have hge := F0.2.1
      have h9 := F0.2.2.1 hlt
      have epu : cb_pu n (f + 1) π fr = (List.range n).flatMap (fun o => if cb_first π n 7 fr ≤ o ∧ π o = 9 then cb_pu n f (cb_up π (cb_first π n 7 fr) o) (cb_first π n 7 fr + 1) else []) := by
        show (if n ≤ cb_first π n 7 fr then _ else _) = _
        rw [if_neg e]
      generalize cb_first π n 7 fr = t at *
      -- the loop over the partners
      have loop : ∀ (r o : Nat) (acc2 : List (List Nat)) (I2 : Nat → Nat → Int32), o + r = n → t ≤ o → I2 23 4 = nI n → cb_xp π I2 → cb_xr acc2 I2 → (acc2 ++ ((List.range' o r).flatMap (fun o => if t ≤ o ∧ π o = 9 then cb_pu n f (cb_up π t o) (t + 1) else []))).length ≤ 76 → ∃ I' : Nat → Nat → Int32, xk_go (ik_cr xk_P xk_M xk_Y xk_K X (d + (f + 1))) 72 (40, [some (.ref 23), none, some (.int (nI t)), some (.int (nI o))], [], (xk_R b, I2, J)) none (xk_R b, I', J) ∧ cb_xr (acc2 ++ ((List.range' o r).flatMap (fun o => if t ≤ o ∧ π o = 9 then cb_pu n f (cb_up π t o) (t + 1) else []))) I' ∧ cb_xp π I' ∧ cb_fx I2 I' := by
        intro r
        induction r with
        | zero =>
          intro o acc2 I2 ho hto h42 hp2 hr2 hle2
          have : o = n := by omega
          subst this
          refine ⟨I2, xp_X4_pairUp_40_0 I2 J (nI t) (nI o) (by rw [h42]; exact nI_le (Nat.le_refl o) (by omega)), ?_, hp2, fun _ _ _ _ _ _ => rfl⟩
          rw [show (List.range' o 0).flatMap _ = ([] : List (List Nat)) from rfl, List.append_nil]
          exact hr2
        | succ r ihr =>
          intro o acc2 I2 ho hto h42 hp2 hr2 hle2
          have hpo := lx_partner (X := X) (d := d + f) (b := b) (J := J) hp2 (x := o) (by omega)
          have hno : ¬ I2 23 4 ≤ nI o := by rw [h42]; exact nI_ge (by omega) (by omega)
          rw [List.range'_succ, List.flatMap_cons] at hle2 ⊢
          by_cases e9 : π o = 9
          · rw [if_pos ⟨hto, e9⟩] at hle2 ⊢
            rw [← List.append_assoc] at hle2 ⊢
            obtain ⟨I3, k1, k2, k3, k4⟩ := ih (t + 1) (cb_up π t o) acc2 (ij_u (ij_u I2 27 t (nI o)) 27 o (nI t)) (by omega) (by omega) h42 (cb_xp_up hp2 (by omega) (by omega)) hr2 (by rw [List.length_append] at hle2; omega)
            have hp4 : cb_xp π (ij_u (ij_u I3 27 t (-1)) 27 o (-1)) := fun x hx => by
              by_cases e1 : x = o
              · subst e1
                rw [ij_u_same, e9]
                exact ⟨rfl, by decide⟩
              · rw [ij_u_other _ _ _ _ e1]
                by_cases e2 : x = t
                · subst e2
                  rw [ij_u_same, h9]
                  exact ⟨rfl, by decide⟩
                · rw [ij_u_other _ _ _ _ e2]
                  have := k3 x hx
                  unfold cb_up at this
                  rw [if_neg e1, if_neg e2] at this
                  exact this
            have h44 : ij_u (ij_u I3 27 t (-1)) 27 o (-1) 23 4 = nI n := by
              show I3 23 4 = nI n
              rw [k4 23 4 (by decide) (by decide) (by omega) (by omega)]
              exact h42
            obtain ⟨I', m1, m2, m3, m4⟩ := ihr (o + 1) (acc2 ++ cb_pu n f (cb_up π t o) (t + 1)) (ij_u (ij_u I3 27 t (-1)) 27 o (-1)) (by omega) (by omega) h44 hp4 k2 hle2
            refine ⟨I', ?_, m2, m3, fun p y a1 a2 a3 a4 => ?_⟩
            · rw [e9, cb_e9] at hpo
              rw [← nI_1] at m1 k1
              exact xp_X4_pairUp_40_1 I2 J (nI t) (nI o) (-1) hno hpo (xp_X4_pairUp_53_1 I2 J (nI t) (nI o) (-1) rfl (lx_setp (X := X) (d := d + f) (by omega) (by omega) (nI o) (nI t)) (xp_X4_pairUp_65_0 _ J (nI t) (nI o) k1 (xp_X4_pairUp_72_0 I3 J (nI t) (nI o) (lx_setp (X := X) (d := d + f) (by omega) (by omega) (-1) (-1)) (xp_X4_pairUp_80_0 _ J (nI t) (nI o) m1))))
            · rw [m4 p y a1 a2 a3 a4, lb_u_at (by omega), lb_u_at (by omega), k4 p y a1 a2 a3 a4, lb_u_at (by omega), lb_u_at (by omega)]
          · rw [if_neg (fun q => e9 q.2), List.nil_append] at hle2 ⊢
            obtain ⟨I', m1, m2, m3, m4⟩ := ihr (o + 1) acc2 I2 (by omega) (by omega) h42 hp2 hr2 hle2
            rw [← nI_1] at m1
            exact ⟨I', xp_X4_pairUp_40_1 I2 J (nI t) (nI o) _ hno hpo (xp_X4_pairUp_53_0 I2 J (nI t) (nI o) _ (fun q => e9 ((cb_e_m1 (hp2 o (by omega)).2).mp q)) m1), m2, m3, m4⟩
      -- those ahead of the tile have partners or don't count
      have esplit : (List.range n).flatMap (fun o => if t ≤ o ∧ π o = 9 then cb_pu n f (cb_up π t o) (t + 1) else []) = (List.range' t (n - t)).flatMap (fun o => if t ≤ o ∧ π o = 9 then cb_pu n f (cb_up π t o) (t + 1) else []) := by
        rw [List.range_eq_range', show List.range' 0 n = List.range' 0 t ++ List.range' t (n - t) from by
          have := List.range'_append (s := 0) (m := t) (n := n - t) (step := 1)
          rw [Nat.one_mul, Nat.zero_add, show t + (n - t) = n by omega] at this
          exact this.symm, List.flatMap_append]
        have : (List.range' 0 t).flatMap (fun o => if t ≤ o ∧ π o = 9 then cb_pu n f (cb_up π t o) (t + 1) else []) = [] := by
          apply List.flatMap_eq_nil_iff.mpr
          intro o ho
          rw [if_neg]
          intro q
          have := List.mem_range'_1.mp ho
          omega
        rw [this, List.nil_append]
      rw [epu, esplit] at hle ⊢
      obtain ⟨I', m1, m2, m3, m4⟩ := loop (n - t) t acc I (by omega) (Nat.le_refl t) h4 hp hr hle
      exact ⟨I', start _ _ ((F _ _).2.2.2 (fun q => absurd q e) (fun _ => m1)), m2, m3, m4⟩
end CB2
