/-! ===== closed boards: laps ===== -/
/-- by how many times both in turn lead back to x: from y, the k-th time being next -/
def cb_lw (w1 w2 : List Nat) (x : Nat) : Nat → Nat → Nat → Nat
  | 0, _, _ => 0
  | r + 1, k, y => if w2.getD (w1.getD y 0) 0 = x then k else cb_lw w1 w2 x r (k + 1) (w2.getD (w1.getD y 0) 0)
def cb_lap (n i j x : Nat) : Nat := cb_lw ((cb_T n).getD i []) ((cb_T n).getD j []) x n 1 x
def cb_lpk (n : Nat) : Bool := (cb_T n).all (fun w1 => (cb_T n).all (fun w2 => (List.range n).all (fun x => Nat.ble 1 (cb_lw w1 w2 x n 1 x) && Nat.ble (cb_lw w1 w2 x n 1 x) n)))
set_option maxRecDepth 100000 in
theorem cb_lpks : ∀ n, n < 7 → cb_lpk n = true := by decide +kernel
theorem cb_lap_le {n i j x : Nat} (hn : n < 7) (hi : i < cb_q n) (hj : j < cb_q n) (hx : x < n) : 1 ≤ cb_lap n i j x ∧ cb_lap n i j x ≤ n := by
  have h := cb_lpks n hn
  unfold cb_lpk at h
  have h2 := List.all_eq_true.mp (List.all_eq_true.mp (List.all_eq_true.mp h _ (cb_mem hi)) _ (cb_mem hj)) x (List.mem_range.mpr hx)
  rw [Bool.and_eq_true] at h2
  exact ⟨Nat.le_of_ble_eq_true h2.1, Nat.le_of_ble_eq_true h2.2⟩
/-- the laps of the first k tiles, as bits -/
def cb_ls (n i j : Nat) : Nat → Nat
  | 0 => 0
  | k + 1 => cb_ls n i j k ||| 2 ^ cb_lap n i j k
theorem cb_ls_lt {n i j : Nat} (hn : n < 7) (hi : i < cb_q n) (hj : j < cb_q n) : ∀ k, k ≤ n → cb_ls n i j k < 128 := by
  intro k
  induction k with
  | zero => intro _; show 0 < 128; decide
  | succ k ih =>
    intro hk
    have := (cb_lap_le hn hi hj (x := k) (by omega)).2
    exact Nat.or_lt_two_pow (n := 7) (ih (by omega)) (Nat.pow_lt_pow_right (by decide) (by omega))
theorem cb_bit : ∀ a : Fin 128, ∀ l : Fin 7, nI a.1 ||| ((1 : Int32) <<< (nI l.1 &&& 31)) = nI (a.1 ||| 2 ^ l.1) := by decide +kernel
/-- the class's rows: numbers; whether one is alone; laps -/
def cb_xn (n : Nat) (I : Nat → Nat → Int32) : Prop := I 23 4 = nI n ∧ I 23 5 = nI (cb_q n) ∧ ∀ i, i < cb_q n → ∀ x, x < n → I 24 (6 * i + x) = nI (cb_r n i x)
def cb_xl (n : Nat) (I : Nat → Nat → Int32) : Prop := cb_xn n I ∧ (∀ i, i < cb_q n → I 26 i = cb_al (cb_r n i) n) ∧ ∀ i, i < cb_q n → ∀ j, j < cb_q n → I 25 (76 * i + j) = nI (cb_ls n i j n)
section CB3
variable {X : ij_R} {d n : Nat} {b : Bool} {J : Nat → Nat → Int64}
theorem cb_6 (a c : Nat) : nI a * 6 + nI c = nI (6 * a + c) := by
  rw [show (6 : Int32) = nI 6 from rfl, pk_mul, Nat.mul_comm]
  exact (Int32.ofNat_add _ _).symm
theorem cb_76 (a c : Nat) : nI a * 76 + nI c = nI (76 * a + c) := by
  rw [show (76 : Int32) = nI 76 from rfl, pk_mul, Nat.mul_comm]
  exact (Int32.ofNat_add _ _).symm
theorem lx_numberAt {I : Nat → Nat → Int32} {i x : Nat} (hn : n < 7) (h : cb_xn n I) (hi : i < cb_q n) (hx : x < n) : lk_cx1 X (d + 1) 69 [.ref 23, .int (nI i), .int (nI x)] (xk_R b, I, J) (some (.int (nI (cb_r n i x)))) (xk_R b, I, J) := by
  have q76 := cb_qs n hn
  have q := xp_X4_numberAt_0_4 (C := ik_cr xk_P xk_M xk_Y xk_K X d) (b := b) I J (nI i) (nI x) (nI_pos (by omega)) (nI_pos (by omega)) (nI_ge (b := 6) (by omega) (by decide)) (by decide)
  rw [cb_6, nI_clamp (by omega), h.2.2 i hi x hx] at q
  exact ik_cr_of (Nat.le_of_ble_eq_true rfl) (q (nI_ge (b := 456) (by omega) (by decide)) (vp_in_nI (by omega) (by decide)))
theorem lx_lap6 {I : Nat → Nat → Int32} {i j x : Nat} (hn : n < 7) (h : cb_xn n I) (hi : i < cb_q n) (hj : j < cb_q n) (hx : x < n) : ∀ (r k y : Nat), k + r = n + 1 → y < n → 1 ≤ k → xk_go (ik_cr xk_P xk_M xk_Y xk_K X (d + 1)) 77 (6, [some (.ref 23), some (.int (nI i)), some (.int (nI j)), some (.int (nI x)), some (.int (nI y)), some (.int (nI k))], [], (xk_R b, I, J)) (some (.int (nI (cb_lw ((cb_T n).getD i []) ((cb_T n).getD j []) x r k y)))) (xk_R b, I, J) := by
  intro r
  induction r with
  | zero =>
    intro k y hk hy h1
    have : k = n + 1 := by omega
    subst this
    exact xp_X4_lap_6_0 I J _ _ _ _ (nI (n + 1)) (by rw [h.1]; exact nI_lt (by omega) (by omega))
  | succ r ih =>
    intro k y hk hy h1
    have r1 := (cb_r_all hn hi hy).1
    have r2 := (cb_r_all hn hj r1).1
    refine xp_X4_lap_6_1 I J _ _ _ _ _ _ (by rw [h.1]; exact nI_nlt (by omega) (by omega)) (lx_numberAt hn h hi hy) (xp_X4_lap_24_0 I J _ _ _ _ _ _ _ (lx_numberAt hn h hj r1) ?_)
    show xk_go _ 77 _ (some (.int (nI (if cb_r n j (cb_r n i y) = x then k else cb_lw ((cb_T n).getD i []) ((cb_T n).getD j []) x r (k + 1) (cb_r n j (cb_r n i y)))))) _
    by_cases e : cb_r n j (cb_r n i y) = x
    · rw [if_pos e]
      exact xp_X4_lap_27_1 I J _ _ _ _ _ (by rw [e])
    · rw [if_neg e]
      refine xp_X4_lap_27_0 I J _ _ _ _ _ (fun q => e ((nI_eq (by omega) (by omega)).mp q)) ?_
      rw [nI_1]
      exact ih (k + 1) _ (by omega) r2 (by omega)
theorem lx_lap {I : Nat → Nat → Int32} {i j x : Nat} (hn : n < 7) (h : cb_xn n I) (hi : i < cb_q n) (hj : j < cb_q n) (hx : x < n) : lk_cx1 X (d + 2) 77 [.ref 23, .int (nI i), .int (nI j), .int (nI x)] (xk_R b, I, J) (some (.int (nI (cb_lap n i j x)))) (xk_R b, I, J) :=
  ik_cr_of (Nat.le_of_ble_eq_true rfl) (xp_X4_lap_0_0 I J _ _ _ (lx_lap6 hn h hi hj hx n 1 x (by omega) hx (Nat.le_refl 1)))
theorem lx_laps5 {I : Nat → Nat → Int32} {i j : Nat} (hn : n < 7) (h : cb_xn n I) (hi : i < cb_q n) (hj : j < cb_q n) : ∀ (r x : Nat), x + r = n → xk_go (ik_cr xk_P xk_M xk_Y xk_K X (d + 2)) 76 (5, [some (.ref 23), some (.int (nI i)), some (.int (nI j)), some (.int (nI (cb_ls n i j x))), some (.int (nI x))], [], (xk_R b, I, J)) none (xk_R b, ij_u I 25 (76 * i + j) (nI (cb_ls n i j n)), J) := by
  intro r
  have q76 := cb_qs n hn
  induction r with
  | zero =>
    intro x hx
    have : x = n := by omega
    subst this
    have q := xp_X4_setLaps_5_2 (C := ik_cr xk_P xk_M xk_Y xk_K X (d + 2)) (b := b) I J (nI i) (nI j) (nI (cb_ls x i j x)) (nI x) (by rw [h.1]; exact nI_le (Nat.le_refl x) (by omega))
    rw [cb_76, nI_clamp (by omega)] at q
    exact q (nI_pos (by omega)) (by decide) (nI_ge (b := 5776) (by omega) (by decide)) (vp_in_nI (by omega) (by decide))
  | succ r ih =>
    intro x hx
    have k := ih (x + 1) (by omega)
    have ll := (cb_lap_le hn hi hj (x := x) (by omega)).2
    refine xp_X4_setLaps_5_3 I J _ _ _ _ _ (by rw [h.1]; exact nI_ge (by omega) (by omega)) (lx_lap hn h hi hj (by omega)) (xp_X4_setLaps_24_0 I J _ _ _ _ _ _ ?_)
    rw [cb_bit ⟨cb_ls n i j x, cb_ls_lt hn hi hj x (by omega)⟩ ⟨cb_lap n i j x, by omega⟩, nI_1]
    exact k
theorem lx_setLaps {I : Nat → Nat → Int32} {i j : Nat} (hn : n < 7) (h : cb_xn n I) (hi : i < cb_q n) (hj : j < cb_q n) : lk_cx1 X (d + 3) 76 [.ref 23, .int (nI i), .int (nI j)] (xk_R b, I, J) none (xk_R b, ij_u I 25 (76 * i + j) (nI (cb_ls n i j n)), J) :=
  ik_cr_of (Nat.le_of_ble_eq_true rfl) (xp_X4_setLaps_0_0 I J _ _ (lx_laps5 hn h hi hj n 0 (Nat.zero_add n)))
theorem lx_list54 {i : Nat} {v : Option Value} {τ : ij_S} (hn : n < 7) (hi : i < cb_q n) : ∀ (r j : Nat) (I : Nat → Nat → Int32), j + r = cb_q n → cb_xn n I → ∃ I' : Nat → Nat → Int32, (∀ v τ, xk_go (ik_cr xk_P xk_M xk_Y xk_K X (d + 3)) 68 (44, [some (.ref 23), none, some (.int (nI (i + 1))), none], [], (xk_R b, I', J)) v τ → xk_go (ik_cr xk_P xk_M xk_Y xk_K X (d + 3)) 68 (54, [some (.ref 23), none, some (.int (nI i)), some (.int (nI j))], [], (xk_R b, I, J)) v τ) ∧ (∀ k, j ≤ k → k < cb_q n → I' 25 (76 * i + k) = nI (cb_ls n i k n)) ∧ (∀ y, (y < 76 * i + j ∨ 76 * i + 76 ≤ y) → I' 25 y = I 25 y) ∧ ∀ p, p ≠ 25 → I' p = I p := by
  intro r
  have q76 := cb_qs n hn
  induction r with
  | zero =>
    intro j I hj h
    have : j = cb_q n := by omega
    subst this
    refine ⟨I, fun v τ hg => ?_, fun k h1 h2 => by omega, fun _ _ => rfl, fun _ _ => rfl⟩
    rw [← nI_1] at hg
    exact xp_X4_list_54_0 I J (nI i) (nI (cb_q n)) (by rw [h.2.1]; exact nI_le (Nat.le_refl _) (by omega)) hg
  | succ r ih =>
    intro j I hj h
    obtain ⟨I', g1, g2, g3, g4⟩ := ih (j + 1) (ij_u I 25 (76 * i + j) (nI (cb_ls n i j n))) (by omega) h
    refine ⟨I', fun v τ hg => ?_, fun k h1 h2 => ?_, fun y hy => ?_, fun p hp => (g4 p hp).trans (ij_u_ne hp)⟩
    · have k := g1 v τ hg
      rw [← nI_1] at k
      exact xp_X4_list_54_1 I J (nI i) (nI j) (by rw [h.2.1]; exact nI_ge (by omega) (by omega)) (lx_setLaps hn h hi (by omega)) (xp_X4_list_68_0 _ J (nI i) (nI j) k)
    · by_cases e : k = j
      · subst e
        rw [g3 _ (by omega), ij_u_same]
      · exact g2 k (by omega) h2
    · rw [g3 y (by omega), ij_u_other _ _ _ _ (by omega)]
theorem lx_list44 (hn : n < 7) : ∀ (r i : Nat) (I : Nat → Nat → Int32), i + r = cb_q n → cb_xn n I → (∀ k, k < i → ∀ j, j < cb_q n → I 25 (76 * k + j) = nI (cb_ls n k j n)) → ∃ I' : Nat → Nat → Int32, xk_go (ik_cr xk_P xk_M xk_Y xk_K X (d + 3)) 68 (44, [some (.ref 23), none, some (.int (nI i)), none], [], (xk_R b, I, J)) none (xk_R b, I', J) ∧ (∀ k, k < cb_q n → ∀ j, j < cb_q n → I' 25 (76 * k + j) = nI (cb_ls n k j n)) ∧ ∀ p, p ≠ 25 → I' p = I p := by
  intro r
  have q76 := cb_qs n hn
  induction r with
  | zero =>
    intro i I hi h hl
    have : i = cb_q n := by omega
    subst this
    exact ⟨I, xp_X4_list_44_0 I J (nI (cb_q n)) (by rw [h.2.1]; exact nI_le (Nat.le_refl _) (by omega)), hl, fun _ _ => rfl⟩
  | succ r ih =>
    intro i I hi h hl
    obtain ⟨I1, g1, g2, g3, g4⟩ := lx_list54 (X := X) (d := d) (b := b) (J := J) (v := none) (τ := (xk_R b, I, J)) (i := i) hn (by omega) (cb_q n) 0 I (Nat.zero_add _) h
    have h1 : cb_xn n I1 := by
      unfold cb_xn
      rw [g4 23 (by decide), g4 24 (by decide)]
      exact h
    obtain ⟨I', k1, k2, k3⟩ := ih (i + 1) I1 (by omega) h1 (fun k hk j hj => by
      by_cases e : k = i
      · subst e
        exact g2 j (Nat.zero_le j) hj
      · rw [g3 _ (by omega)]
        exact hl k (by omega) j hj)
    exact ⟨I', xp_X4_list_44_1 I J (nI i) (by rw [h.2.1]; exact nI_ge (by omega) (by omega)) (g1 _ _ k1), k2, fun p hp => (k3 p hp).trans (g4 p hp)⟩
theorem lx_fill27 {C : ij_R} {x : Int32} : ∀ (r j : Nat) (I : Nat → Nat → Int32), j + r = 6 → ∃ I' : Nat → Nat → Int32, xk_go C 150 (5, [some (.ref 27), some (.int x), some (.int (nI j)), some (.int 6)], [], (xk_R b, I, J)) none (xk_R b, I', J) ∧ (∀ y, j ≤ y → y < 6 → I' 27 y = x) ∧ (∀ y, y < j → I' 27 y = I 27 y) ∧ ∀ p, p ≠ 27 → I' p = I p := by
  intro r
  induction r with
  | zero =>
    intro j I hj
    have : j = 6 := by omega
    subst this
    exact ⟨I, xp_J7_fill_53178_27_5_0 I J x 6 6 (by decide), fun y h1 h2 => by omega, fun _ _ => rfl, fun _ _ => rfl⟩
  | succ r ih =>
    intro j I hj
    obtain ⟨I', g1, g2, g3, g4⟩ := ih (j + 1) (ij_u I 27 j x) (by omega)
    refine ⟨I', ?_, fun y h1 h2 => ?_, fun y hy => ?_, fun p hp => (g4 p hp).trans (ij_u_ne hp)⟩
    · have q := xp_J7_fill_53178_27_5_1 (C := C) (v := none) (τ := (xk_R b, I', J)) (b := b) I J x (nI j) 6 (nI_ge (b := 6) (by omega) (by decide)) (vp_in_nI (by omega) (by decide))
      rw [nI_clamp (by omega), nI_1] at q
      exact q g1
    · by_cases e : y = j
      · subst e
        rw [g3 y (by omega), ij_u_same]
      · exact g2 y (by omega) h2
    · rw [g3 y (by omega), ij_u_other _ _ _ _ (by omega)]
/-- what listing rows leaves as it was -/
def cb_fL (I I' : Nat → Nat → Int32) : Prop := ∀ p y, p ≠ 24 → p ≠ 25 → p ≠ 26 → p ≠ 27 → ¬ (p = 23 ∧ (y = 4 ∨ y = 5)) → I' p y = I p y
/-- the cache: for the size that is listed all stands -/
def cb_xc (I : Nat → Nat → Int32) : Prop := ∃ z, z < 7 ∧ I 23 4 = nI z ∧ (1 ≤ z → cb_xl z I)
theorem lx_list (h1 : 1 ≤ n) (hn : n < 7) (I : Nat → Nat → Int32) (hc : cb_xc I) : ∃ I' : Nat → Nat → Int32, lk_cx1 X (d + 9) 68 [.ref 23, .int (nI n)] (xk_R b, I, J) none (xk_R b, I', J) ∧ cb_xl n I' ∧ cb_fL I I' := by
  obtain ⟨z, hz, hz4, hzl⟩ := hc
  by_cases e : n = z
  · subst e
    exact ⟨I, ik_cr_of (Nat.le_of_ble_eq_true rfl) (xp_X4_list_0_0 I J (nI n) hz4.symm), hzl h1, fun _ _ _ _ _ _ _ => rfl⟩
  · obtain ⟨If, f1, f2, -, f4⟩ := lx_fill27 (C := ik_cr xk_P xk_M xk_Y xk_K X (d + 7)) (b := b) (J := J) (x := -1) 6 0 (ij_u (ij_u I 23 4 (nI n)) 23 5 0) rfl
    have fc : lk_cx1 X (d + 8) 150 [.ref 27, .int (-1)] (xk_R b, ij_u (ij_u I 23 4 (nI n)) 23 5 0, J) none (xk_R b, If, J) := ik_cr_of (Nat.le_of_ble_eq_true rfl) (xp_J7_fill_53178_27_0_0 _ J (-1) (by decide) f1)
    have e23 : If 23 = ij_u (ij_u I 23 4 (nI n)) 23 5 0 23 := f4 23 (by decide)
    have eall := cb_pus n hn h1
    have q76 := cb_qs n hn
    obtain ⟨Ip, p1, p2, p3, p4⟩ := lx_pairUp (X := X) (d := d) (b := b) (J := J) (n := n) (by omega) 7 0 (fun _ => 9) [] If (Nat.zero_le n) (by omega) (by rw [e23]; rfl) (fun x hx => ⟨f2 x (Nat.zero_le x) hx, by show 9 < 10; decide⟩) ⟨by rw [e23]; rfl, fun i hi => absurd hi (Nat.not_lt_zero i)⟩ (by rw [List.nil_append, eall, List.length_map]; exact q76)
    rw [List.nil_append, eall] at p2
    obtain ⟨pa, pb⟩ := p2
    rw [List.length_map] at pa pb
    have h23 : Ip 23 4 = nI n := by
      rw [p4 23 4 (by decide) (by decide) (by omega) (by omega), e23]
      rfl
    have row : ∀ i, i < cb_q n → ((cb_T n).map (fun w => w ++ List.replicate (6 - n) 9)).getD i [] = (cb_T n).getD i [] ++ List.replicate (6 - n) 9 := fun i hi => by
      rw [cb_getD _ _ (by rw [List.length_map]; exact hi), List.getElem_map, cb_getD _ _ hi]
      rfl
    have rlen : ∀ i, i < cb_q n → ((cb_T n).getD i []).length = n := fun i hi => by
      have h := cb_goods n hn
      unfold cb_good at h
      have h2 := List.all_eq_true.mp h _ (cb_mem hi)
      rw [Bool.and_eq_true] at h2
      exact beq_iff_eq.mp h2.1
    have xlow : ∀ i, i < cb_q n → ∀ x, x < n → ((cb_T n).getD i [] ++ List.replicate (6 - n) 9).getD x 0 = cb_r n i x := fun i hi x hx => by
      unfold cb_r
      rw [List.getD_eq_getElem?_getD, List.getElem?_append_left (by rw [rlen i hi]; exact hx), ← List.getD_eq_getElem?_getD]
    have xhigh : ∀ i, i < cb_q n → ∀ x, n ≤ x → x < 6 → ((cb_T n).getD i [] ++ List.replicate (6 - n) 9).getD x 0 = 9 := fun i hi x hx hx6 => by
      rw [List.getD_eq_getElem?_getD, List.getElem?_append_right (by rw [rlen i hi]; exact hx), List.getElem?_replicate, rlen i hi, if_pos (by omega)]
      rfl
    have hxn : cb_xn n Ip := ⟨h23, pa, fun i hi x hx => by
      rw [(pb i hi).1 x (by omega), row i hi, xlow i hi x hx]
      exact cb_e_lt (by have := (cb_r_all hn hi hx).1; omega)⟩
    have hal : ∀ i, i < cb_q n → Ip 26 i = cb_al (cb_r n i) n := fun i hi => by
      rw [(pb i hi).2, row i hi]
      have eb : (List.range 6).any (fun x => ((cb_T n).getD i [] ++ List.replicate (6 - n) 9).getD x 0 == x) = (List.range n).any (fun x => cb_r n i x == x) := by
        apply Bool.eq_iff_iff.mpr
        rw [List.any_eq_true, List.any_eq_true]
        constructor
        · rintro ⟨x, hx, h⟩
          have hx6 := List.mem_range.mp hx
          by_cases ex : x < n
          · rw [xlow i hi x ex] at h
            exact ⟨x, List.mem_range.mpr ex, h⟩
          · rw [xhigh i hi x (by omega) hx6] at h
            have := beq_iff_eq.mp h
            omega
        · rintro ⟨x, hx, h⟩
          have ex := List.mem_range.mp hx
          refine ⟨x, List.mem_range.mpr (by omega), ?_⟩
          rw [xlow i hi x ex]
          exact h
      show (if ((List.range 6).any (fun x => ((cb_T n).getD i [] ++ List.replicate (6 - n) 9).getD x 0 == x)) = true then (1 : Int32) else 0) = _
      rw [eb]
      rfl
    obtain ⟨I', k1, k2, k3⟩ := lx_list44 (X := X) (d := d + 5) (b := b) (J := J) (n := n) hn (cb_q n) 0 Ip (Nat.zero_add _) hxn (fun k hk => absurd hk (Nat.not_lt_zero k))
    refine ⟨I', ik_cr_of (Nat.le_of_ble_eq_true rfl) (xp_X4_list_0_2 I J (nI n) (by rw [hz4]; exact fun q => e ((nI_eq (by omega) (by omega)).mp q)) (nI_pos (by omega)) (nI_le (b := 6) (by omega) (by decide)) fc (xp_X4_list_37_0 If J p1 (xp_X4_list_42_0 Ip J k1))), ⟨?_, fun i hi => by rw [k3 26 (by decide)]; exact hal i hi, k2⟩, fun p y a1 a2 a3 a4 a5 => ?_⟩
    · unfold cb_xn
      rw [k3 23 (by decide), k3 24 (by decide)]
      exact hxn
    · rw [k3 p a2, p4 p y a1 a3 (by omega) (by omega), f4 p a4, lb_u_at (by omega), lb_u_at (by omega)]
end CB3
