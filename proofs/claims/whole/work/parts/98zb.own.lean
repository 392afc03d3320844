/-! ===== closed boards: own likenesses ===== -/
section CO1
variable {X : ij_R} {d n p : Nat} {b : Bool} {J : Nat → Nat → Int64} {cs : Nat → Nat} {a : List Nat}
theorem lx_noteN {t : Nat} {x : Int32} {I : Nat → Nat → Int32} (ht : t < 6) : lk_cx1 X (d + 1) 26 [.ref 28, .int (nI t), .int x] (xk_R b, I, J) none (xk_R b, ij_u I 33 t x, J) := by
  have q := xp_X1_note_0_2 (C := ik_cr xk_P xk_M xk_Y xk_K X d) (b := b) I J (nI t) x (nI_pos (by omega)) (by decide) (nI_ge (b := 6) ht (by decide)) (vp_in_nI ht (by decide))
  rw [nI_clamp (by omega)] at q
  exact ik_cr_of (Nat.le_of_ble_eq_true rfl) q
theorem lx_va31 {t : Nat} {I : Nat → Nat → Int32} (ht : t < 6) : lk_cx1 X (d + 1) 27 [.ref 31, .int (nI t)] (xk_R b, I, J) (some (.int (I 31 t))) (xk_R b, I, J) := by
  have q := xp_X1_valueAt_31_0_2 (C := ik_cr xk_P xk_M xk_Y xk_K X d) (b := b) I J (nI t) (nI_pos (by omega)) (by decide) (nI_ge (b := 6) ht (by decide)) (vp_in_nI ht (by decide))
  rw [nI_clamp (by omega)] at q
  exact ik_cr_of (Nat.le_of_ble_eq_true rfl) q
theorem lx_va32 {t : Nat} {I : Nat → Nat → Int32} (ht : t < 6) : lk_cx1 X (d + 1) 27 [.ref 32, .int (nI t)] (xk_R b, I, J) (some (.int (I 32 t))) (xk_R b, I, J) := by
  have q := xp_X1_valueAt_32_0_2 (C := ik_cr xk_P xk_M xk_Y xk_K X d) (b := b) I J (nI t) (nI_pos (by omega)) (by decide) (nI_ge (b := 6) ht (by decide)) (vp_in_nI ht (by decide))
  rw [nI_clamp (by omega)] at q
  exact ik_cr_of (Nat.le_of_ble_eq_true rfl) q
theorem lx_va33 {t : Nat} {I : Nat → Nat → Int32} (ht : t < 6) : lk_cx1 X (d + 1) 27 [.ref 33, .int (nI t)] (xk_R b, I, J) (some (.int (I 33 t))) (xk_R b, I, J) := by
  have q := xp_X1_valueAt_33_0_2 (C := ik_cr xk_P xk_M xk_Y xk_K X d) (b := b) I J (nI t) (nI_pos (by omega)) (by decide) (nI_ge (b := 6) ht (by decide)) (vp_in_nI ht (by decide))
  rw [nI_clamp (by omega)] at q
  exact ik_cr_of (Nat.le_of_ble_eq_true rfl) q
/-- where tiles below t go, if tile 0 goes to y -/
def cb_nt (n p : Nat) (a : List Nat) (y t : Nat) (I : Nat → Nat → Int32) (φ : Nat → Nat) : Prop := φ 0 = y ∧ (∀ u, u < t → φ u < n ∧ I 33 u = nI (φ u)) ∧ ∀ u, 1 ≤ u → u < t → ∃ v w, v < u ∧ w < p ∧ cb_b n a w v = u ∧ φ u = cb_b n a w (φ v)
theorem lx_own20 {x1 x2 : Int32} {y : Nat} (hn : n < 7) (hp : p ≤ 8) (hal : a.length = p) (hok : cb_ok n p a) : ∀ (r t : Nat) (I : Nat → Nat → Int32) (φ : Nat → Nat), t + r = n → 1 ≤ t → cb_xs n p cs I → cb_ch a I → cb_mt n p a n I → cb_nt n p a y t I φ → ∃ I' φ', (∀ v τ, xk_go (ik_cr xk_P xk_M xk_Y xk_K X (d + 3)) 19 (20, [some (.ref 28), some (.int x1), some (.int x2), some (.int (nI n)), none], [], (xk_R b, I', J)) v τ → xk_go (ik_cr xk_P xk_M xk_Y xk_K X (d + 3)) 19 (20, [some (.ref 28), some (.int x1), some (.int x2), some (.int (nI t)), none], [], (xk_R b, I, J)) v τ) ∧ cb_nt n p a y n I' φ' ∧ ∀ q, q ≠ 33 → I' q = I q := by
  intro r
  induction r with
  | zero =>
    intro t I φ ht h1 hx hc hm hnt
    have : t = n := by omega
    subst this
    exact ⟨I, φ, fun _ _ h => h, hnt, fun _ _ => rfl⟩
  | succ r ih =>
    intro t I φ ht h1 hx hc hm hnt
    obtain ⟨u, w, q1, q2, q3, q4, q5⟩ := hm t h1 (by omega)
    have hu := hnt.2.1 u q1
    have hbl := cb_b_lt hn hok q2 hu.1
    obtain ⟨I', φ', z1, z2, z3⟩ := ih (t + 1) (ij_u I 33 t (nI (cb_b n a w (φ u)))) (fun k => if k = t then cb_b n a w (φ u) else φ k) (by omega) (by omega) (cb_xs_fX (s := 0) ⟨fun q k _ _ _ _ a5 _ _ _ _ => lb_u_at (fun z => a5 z.1), fun k hk => absurd hk (Nat.not_lt_zero k), fun y _ => congrFun (ij_u_ne (by decide)) y⟩ hx) (fun k hk => (congrFun (ij_u_ne (by decide)) k).trans (hc k hk)) (fun k k1 k2 => by
      obtain ⟨u', w', e1, e2, e3, e4, e5⟩ := hm k k1 k2
      exact ⟨u', w', e1, e2, (congrFun (ij_u_ne (by decide)) k).trans e3, (congrFun (ij_u_ne (by decide)) k).trans e4, e5⟩) ⟨by show (if 0 = t then _ else _) = y; rw [if_neg (by omega)]; exact hnt.1, fun k hk => by
      by_cases e : k = t
      · subst e
        rw [ij_u_same]
        show (if k = k then _ else _) < n ∧ _ = nI (if k = k then _ else _)
        rw [if_pos rfl]
        exact ⟨hbl, rfl⟩
      · rw [ij_u_other _ _ _ _ e]
        show (if k = t then _ else _) < n ∧ _ = nI (if k = t then _ else _)
        rw [if_neg e]
        exact hnt.2.1 k (by omega), fun k k1 k2 => by
      by_cases e : k = t
      · subst e
        refine ⟨u, w, q1, q2, q5, ?_⟩
        show (if k = k then _ else _) = cb_b n a w (if u = k then _ else _)
        rw [if_pos rfl, if_neg (by omega)]
      · obtain ⟨v', w', e1, e2, e3, e4⟩ := hnt.2.2 k k1 (by omega)
        refine ⟨v', w', e1, e2, e3, ?_⟩
        show (if k = t then _ else _) = cb_b n a w' (if v' = t then _ else _)
        rw [if_neg e, if_neg (by omega)]
        exact e4⟩
    refine ⟨I', φ', fun v τ hg => ?_, z2, fun q hq => (z3 q hq).trans (ij_u_ne hq)⟩
    have z := z1 v τ hg
    rw [← nI_1] at z
    have v31 := lx_va31 (X := X) (d := d + 2) (b := b) (J := J) (I := I) (t := t) (by omega)
    rw [q3] at v31
    have v33 := lx_va33 (X := X) (d := d + 2) (b := b) (J := J) (I := I) (t := u) (by omega)
    rw [hu.2] at v33
    have v32 := lx_va32 (X := X) (d := d + 2) (b := b) (J := J) (I := I) (t := t) (by omega)
    rw [q4] at v32
    exact xp_X1_ownLikenesses_20_1 I J _ _ _ _ (by rw [hx.2]; exact nI_ge (by omega) (by omega)) v31 (xp_X1_ownLikenesses_40_0 I J _ _ _ _ _ v33 (xp_X1_ownLikenesses_43_0 I J _ _ _ _ _ v32 (xp_X1_ownLikenesses_56_0 I J _ _ _ _ _ _ _ (lx_across (d := d + 1) hn (by omega) hx.1.1.1 hc (by omega) (hok w q2) hu.1) (xp_X1_ownLikenesses_61_0 I J _ _ _ _ _ (lx_noteN (d := d + 2) (by omega)) (xp_X1_ownLikenesses_64_0 _ J _ _ _ z)))))
/-- whether they go so that all is as it was -/
def cb_hom (n p : Nat) (a : List Nat) (φ : Nat → Nat) : Prop := ∀ s t, s < p → t < n → φ (cb_b n a s t) = cb_b n a s (φ t)
theorem lx_likeN {I : Nat → Nat → Int32} {φ : Nat → Nat} (hn : n < 7) (hp : p ≤ 8) (hal : a.length = p) (hok : cb_ok n p a) (hx : cb_xs n p cs I) (hc : cb_ch a I) (hφ : ∀ u, u < n → φ u < n ∧ I 33 u = nI (φ u)) : lk_cx1 X (d + 3) 20 [.ref 28] (xk_R b, I, J) (some (.int (if cb_B (cb_hom n p a φ) then 1 else 0))) (xk_R b, I, J) := by
  have va : ∀ u, u < n → lk_cx1 X (d + 2) 27 [.ref 33, .int (nI u)] (xk_R b, I, J) (some (.int (nI (φ u)))) (xk_R b, I, J) := fun u hu => by
    have := lx_va33 (X := X) (d := d + 1) (b := b) (J := J) (I := I) (t := u) (by omega)
    rw [(hφ u hu).2] at this
    exact this
  have ac : ∀ s t, s < p → t < n → lk_cx1 X (d + 2) 12 [.ref 28, .int (nI s), .int (nI t)] (xk_R b, I, J) (some (.int (nI (cb_b n a s t)))) (xk_R b, I, J) := fun s t hs ht => lx_across hn (by omega) hx.1.1.1 hc (by omega) (hok s hs) ht
  have loop15 : ∀ (s : Nat), s < p → ((∀ s' t, s' < s + 1 → t < n → φ (cb_b n a s' t) = cb_b n a s' (φ t)) → xk_go (ik_cr xk_P xk_M xk_Y xk_K X (d + 2)) 20 (2, [some (.ref 28), some (.int (nI (s + 1))), none, none], [], (xk_R b, I, J)) (some (.int (if cb_B (cb_hom n p a φ) then 1 else 0))) (xk_R b, I, J)) → (∀ s' t, s' < s → t < n → φ (cb_b n a s' t) = cb_b n a s' (φ t)) → ∀ (r t : Nat), t + r = n → (∀ u, u < t → φ (cb_b n a s u) = cb_b n a s (φ u)) → xk_go (ik_cr xk_P xk_M xk_Y xk_K X (d + 2)) 20 (15, [some (.ref 28), some (.int (nI s)), some (.int (nI t)), none], [], (xk_R b, I, J)) (some (.int (if cb_B (cb_hom n p a φ) then 1 else 0))) (xk_R b, I, J) := by
    intro s hs nxt hbef r
    induction r with
    | zero =>
      intro t ht hu
      have : t = n := by omega
      subst this
      refine xp_X1_isLikeAsNoted_15_0 I J _ _ (by rw [hx.2]; exact nI_le (Nat.le_refl t) (by omega)) ?_
      rw [nI_1]
      exact nxt (fun s' u h1 h2 => by
        by_cases e : s' = s
        · rw [e]; exact hu u h2
        · exact hbef s' u (by omega) h2)
    | succ r ih =>
      intro t ht hu
      have htn : t < n := by omega
      have hb := cb_b_lt hn hok hs htn
      have hb2 := cb_b_lt hn hok hs (hφ t htn).1
      have hf := (hφ _ hb).1
      refine xp_X1_isLikeAsNoted_15_1 I J _ _ _ (by rw [hx.2]; exact nI_ge (by omega) (by omega)) (ac s t hs htn) (xp_X1_isLikeAsNoted_33_0 I J _ _ _ _ (va _ hb) (xp_X1_isLikeAsNoted_36_0 I J _ _ _ _ (va t htn) (xp_X1_isLikeAsNoted_48_0 I J _ _ _ _ _ _ (ac s (φ t) hs (hφ t htn).1) ?_)))
      by_cases e : φ (cb_b n a s t) = cb_b n a s (φ t)
      · refine xp_X1_isLikeAsNoted_51_0 I J _ _ _ _ (by rw [e]) ?_
        rw [nI_1]
        exact ih (t + 1) (by omega) (fun u hu' => by
          by_cases eu : u = t
          · rw [eu]; exact e
          · exact hu u (by omega))
      · rw [cb_B_f (fun q => e (q s t hs htn))]
        exact xp_X1_isLikeAsNoted_51_1 I J _ _ _ _ (fun q => e ((nI_eq (by omega) (by omega)).mp q))
  have loop2 : ∀ (r s : Nat), s + r = p → (∀ s' t, s' < s → t < n → φ (cb_b n a s' t) = cb_b n a s' (φ t)) → xk_go (ik_cr xk_P xk_M xk_Y xk_K X (d + 2)) 20 (2, [some (.ref 28), some (.int (nI s)), none, none], [], (xk_R b, I, J)) (some (.int (if cb_B (cb_hom n p a φ) then 1 else 0))) (xk_R b, I, J) := by
    intro r
    induction r with
    | zero =>
      intro s hs h
      have : s = p := by omega
      subst this
      rw [cb_B_t (show cb_hom n s a φ from fun s' t h1 h2 => h s' t h1 h2), if_pos rfl]
      exact xp_X1_isLikeAsNoted_2_0 I J _ (by rw [hx.1.2.1]; exact nI_le (Nat.le_refl s) (by omega))
    | succ r ih =>
      intro s hs h
      exact xp_X1_isLikeAsNoted_2_1 I J _ (by rw [hx.1.2.1]; exact nI_ge (by omega) (by omega)) (loop15 s (by omega) (ih (s + 1) (by omega)) h n 0 (Nat.zero_add n) (fun u hu => absurd hu (Nat.not_lt_zero u)))
  exact ik_cr_of (Nat.le_of_ble_eq_true rfl) (xp_X1_isLikeAsNoted_0_0 I J (loop2 p 0 (Nat.zero_add p) (fun s' t h => absurd h (Nat.not_lt_zero s'))))
/-- each once, if each is led to -/
theorem cb_sur_inj {φ : Nat → Nat} (hs : ∀ y, y < n → ∃ x, x < n ∧ φ x = y) : ∀ x y, x < n → y < n → φ x = φ y → x = y := by
  intro x y hx hy e
  refine Classical.byContradiction (fun hne => ?_)
  have h := cb_sub_le (List.range n) (((List.range n).erase y).map φ) List.nodup_range (fun z hz => by
    obtain ⟨u, hu, eu⟩ := hs z (List.mem_range.mp hz)
    by_cases q : u = y
    · exact List.mem_map.mpr ⟨x, (List.mem_erase_of_ne hne).mpr (List.mem_range.mpr hx), by rw [e, ← q]; exact eu⟩
    · exact List.mem_map.mpr ⟨u, (List.mem_erase_of_ne q).mpr (List.mem_range.mpr hu), eu⟩)
  rw [List.length_map, List.length_erase_of_mem (List.mem_range.mpr hy), List.length_range] at h
  omega
theorem cb_hom_iff {y : Nat} {φ : Nat → Nat} {I : Nat → Nat → Int32} (hn : n < 7) (hal : a.length = p) (hok : cb_ok n p a) (hcn : cb_cn n p a) (hmet : cb_od n p a 0 = List.range n) (h0 : 0 < n) (hy : y < n) (hnt : cb_nt n p a y n I φ) : cb_hom n p a φ ↔ cb_R n p a y = a := by
  constructor
  · intro hh
    have go : ∀ (l : List Nat) (x : Nat), (∀ s, s ∈ l → s < p) → x < n → φ (cb_go n a l x) = cb_go n a l (φ x) := by
      intro l
      induction l with
      | nil => intro x _ _; rfl
      | cons s l ih =>
        intro x hl hx
        have hs := hl s (List.mem_cons_self ..)
        show φ (cb_go n a l (cb_b n a s x)) = cb_go n a l (cb_b n a s (φ x))
        rw [ih _ (fun r hr => hl r (List.mem_cons_of_mem _ hr)) (cb_b_lt hn hok hs hx), hh s x hs hx]
    have sur : ∀ z, z < n → ∃ x, x < n ∧ φ x = z := fun z hz => by
      obtain ⟨l, hl, e⟩ := cb_re_trans (cb_re_symm hn hok h0 (hcn y hy)) (hcn z hz)
      exact ⟨cb_go n a l 0, cb_go_lt hn hok l 0 hl h0, by rw [go l 0 hl h0, hnt.1]; exact e⟩
    have inj := cb_sur_inj sur
    have hm : cb_hm n p a a φ := ⟨fun x hx => (hnt.2.1 x hx).1, inj, fun s t hs ht => (hh s t hs ht).symm⟩
    have eo := cb_od_map hn hok hm h0
    rw [hnt.1, hmet] at eo
    have hall := cb_R_all hn hok hcn hy
    refine cb_b_inj hn cb_R_len hal hall.1 hok (fun s k hs hk => (hall.2 s k hs hk).trans ?_)
    show (cb_od n p a y).idxOf (cb_b n a s ((cb_od n p a y).getD k 0)) = cb_b n a s k
    rw [eo, cb_map_getD hk, ← hh s k hs hk, cb_idx_map inj (cb_b_lt hn hok hs hk) _ (fun x hx => List.mem_range.mp hx)]
    have hb := cb_b_lt hn hok hs hk
    have := (cb_o_all hn hok hcn h0).1 _ hb
    rw [hmet, cb_getD _ _ (by rw [List.length_range]; exact hb), List.getElem_range] at this
    exact this.2
  · intro e
    have hm := cb_R_hm hn hok hcn hy
    rw [e] at hm
    have o3 := (cb_o_all hn hok hcn hy).2.2
    have eq : ∀ t, t < n → φ t = (cb_od n p a y).getD t 0 := by
      intro t
      induction t using Nat.strongRecOn with
      | ind t ih =>
        intro ht
        by_cases e0 : t = 0
        · rw [e0, hnt.1]; exact o3.symm
        · obtain ⟨v, w, h1, h2, h3, h4⟩ := hnt.2.2 t (by omega) ht
          rw [h4, ih v h1 (by omega)]
          have := hm.2.2 w v h2 (by omega)
          rw [h3] at this
          exact this
    intro s t hs ht
    rw [eq _ (cb_b_lt hn hok hs ht), eq t ht]
    exact (hm.2.2 s t hs ht).symm
theorem lx_own {I : Nat → Nat → Int32} (hn1 : 1 ≤ n) (hn : n < 7) (hp : p ≤ 8) (hal : a.length = p) (hok : cb_ok n p a) (hcn : cb_cn n p a) (hmet : cb_od n p a 0 = List.range n) (hx : cb_xs n p cs I) (hc : cb_ch a I) (hm : cb_mt n p a n I) : ∃ I', lk_cx1 X (d + 4) 19 [.ref 28] (xk_R b, I, J) (some (.int (nI (or_ct (cb_R n p) n a a)))) (xk_R b, I', J) ∧ ∀ q, q ≠ 33 → I' q = I q := by
  have loop : ∀ (r y c : Nat) (K : Nat → Nat → Int32), y + r = n → (∀ q, q ≠ 33 → K q = I q) → ∃ K' : Nat → Nat → Int32, xk_go (ik_cr xk_P xk_M xk_Y xk_K X (d + 3)) 19 (4, [some (.ref 28), some (.int (nI c)), some (.int (nI y)), none, none], [], (xk_R b, K, J)) (some (.int (nI (c + ((List.range' y r).map (fun y => if cb_R n p a y = a then 1 else 0)).sum)))) (xk_R b, K', J) ∧ ∀ q, q ≠ 33 → K' q = I q := by
    intro r
    induction r with
    | zero =>
      intro y c K hy hK
      have : y = n := by omega
      subst this
      exact ⟨K, xp_X1_ownLikenesses_4_0 K J _ _ (by rw [hK 28 (by decide), hx.2]; exact nI_le (Nat.le_refl y) (by omega)), hK⟩
    | succ r ih =>
      intro y c K hy hK
      have e28 : K 28 7 = nI n := by rw [hK 28 (by decide)]; exact hx.2
      have hK1 : ∀ q, q ≠ 33 → ij_u K 33 0 (nI y) q = I q := fun q hq => (ij_u_ne hq).trans (hK q hq)
      have hx1 : ∀ K : Nat → Nat → Int32, (∀ q, q ≠ 33 → K q = I q) → cb_xs n p cs K := fun K hK => cb_xs_fX (s := 0) ⟨fun q k _ _ _ _ a5 _ _ _ _ => congrFun (hK q a5) k, fun k hk => absurd hk (Nat.not_lt_zero k), fun y _ => congrFun (hK 30 (by decide)) y⟩ hx
      have hc1 : ∀ K : Nat → Nat → Int32, (∀ q, q ≠ 33 → K q = I q) → cb_ch a K := fun K hK => by unfold cb_ch; rw [hK 29 (by decide)]; exact hc
      have hm1 : ∀ K : Nat → Nat → Int32, (∀ q, q ≠ 33 → K q = I q) → cb_mt n p a n K := fun K hK => by unfold cb_mt; rw [hK 31 (by decide), hK 32 (by decide)]; exact hm
      obtain ⟨K1, φ, z1, z2, z3⟩ := lx_own20 (X := X) (d := d) (b := b) (J := J) (cs := cs) (x1 := nI c) (x2 := nI y) (y := y) hn hp hal hok (n - 1) 1 (ij_u K 33 0 (nI y)) (fun _ => y) (by omega) (Nat.le_refl 1) (hx1 _ hK1) (hc1 _ hK1) (hm1 _ hK1) ⟨rfl, fun u hu => by
        have : u = 0 := by omega
        subst this
        exact ⟨by show y < n; omega, ij_u_same _ _ _ _⟩, fun u h1 h2 => by omega⟩
      have hK2 : ∀ q, q ≠ 33 → K1 q = I q := fun q hq => (z3 q hq).trans (hK1 q hq)
      have like := lx_likeN (X := X) (d := d) (b := b) (J := J) (cs := cs) (φ := φ) hn hp hal hok (hx1 _ hK2) (hc1 _ hK2) z2.2.1
      have iff := cb_hom_iff hn hal hok hcn hmet (by omega) (show y < n by omega) z2
      rw [List.range'_succ, List.map_cons, List.sum_cons]
      have beg : ∀ v τ, xk_go (ik_cr xk_P xk_M xk_Y xk_K X (d + 3)) 19 (74, [some (.ref 28), some (.int (nI c)), some (.int (nI y)), none, none], [.int (if cb_B (cb_hom n p a φ) then 1 else 0)], (xk_R b, K1, J)) v τ → xk_go (ik_cr xk_P xk_M xk_Y xk_K X (d + 3)) 19 (4, [some (.ref 28), some (.int (nI c)), some (.int (nI y)), none, none], [], (xk_R b, K, J)) v τ := fun v τ hg => xp_X1_ownLikenesses_4_1 K J _ _ (by rw [e28]; exact nI_ge (by omega) (by omega)) (lx_noteN (d := d + 2) (t := 0) (by decide)) (xp_X1_ownLikenesses_18_0 _ J _ _ (z1 v τ (xp_X1_ownLikenesses_20_0 K1 J _ _ _ _ (by rw [(hx1 _ hK2).2]; exact nI_le (Nat.le_refl n) (by omega)) like hg)))
      by_cases e : cb_R n p a y = a
      · obtain ⟨K', k1, k2⟩ := ih (y + 1) (c + 1) K1 (by omega) hK2
        refine ⟨K', beg _ _ ?_, k2⟩
        rw [cb_B_t (iff.mpr e), if_pos rfl, if_pos e, ← Nat.add_assoc]
        rw [← nI_1, ← nI_1] at k1
        exact xp_X1_ownLikenesses_74_1 K1 J _ _ _ (by decide) k1
      · obtain ⟨K', k1, k2⟩ := ih (y + 1) c K1 (by omega) hK2
        refine ⟨K', beg _ _ ?_, k2⟩
        rw [cb_B_f (fun q => e (iff.mp q)), if_neg e, Nat.zero_add]
        rw [← nI_1] at k1
        exact xp_X1_ownLikenesses_74_0 K1 J _ _ _ rfl k1
  obtain ⟨K', k1, k2⟩ := loop n 0 0 I (Nat.zero_add n) (fun _ _ => rfl)
  refine ⟨K', ik_cr_of (Nat.le_of_ble_eq_true rfl) (xp_X1_ownLikenesses_0_0 I J ?_), k2⟩
  rw [Nat.zero_add, ← List.range_eq_range'] at k1
  exact k1
end CO1
