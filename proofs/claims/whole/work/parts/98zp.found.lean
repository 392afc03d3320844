/-! ===== laying a board: the reference looks a tile up ===== -/
section FD1
variable {d p : Nat} {I : Nat → Nat → Int32} {J : Nat → Nat → Int64}
/-- tile u has the vector held -/
def fd_h (p : Nat) (J : Nat → Nat → Int64) (u : Nat) : Prop := ∀ j, j < p → J 15 (8 * u + j) = J 17 j ∧ J 16 (8 * u + j) = J 18 j
theorem rs_isHere2 {C : ij_R} {u : Nat} (hp : p ≤ 8) (hu : u < 2000) (h1 : I 0 1 = nI p) : ∀ (r k : Nat), k + r = p → (∀ j, j < k → J 15 (8 * u + j) = J 17 j ∧ J 16 (8 * u + j) = J 18 j) → ∃ w : Int32, rk_go C 25 (2, [some (.ref 0), some (.int (nI u)), some (.int (nI k))], [], (rk_R, I, J)) (some (.int w)) (rk_R, I, J) ∧ ((w = 1 ∧ fd_h p J u) ∨ (w = 0 ∧ ¬ fd_h p J u)) := by
  intro r
  induction r with
  | zero =>
    intro k hk h
    have : k = p := by omega
    subst this
    exact ⟨1, rp_isHere_2_0 I J _ _ (by rw [h1]; exact nI_le (Nat.le_refl k) (by omega)), Or.inl ⟨rfl, h⟩⟩
  | succ r ih =>
    intro k hk h
    have e8 : (8 : Int32) * nI u + nI k = nI (8 * u + k) := lr_8' u k
    have cl : (nI (8 * u + k)).toNatClampNeg = 8 * u + k := nI_clamp (by omega)
    have clk : (nI k).toNatClampNeg = k := nI_clamp (by omega)
    have v16 : vp_in (nI (8 * u + k)) 16000 := vp_in_nI (by omega) (by decide)
    have v8 : vp_in (nI k) 8 := vp_in_nI (by omega) (by decide)
    have hge : ¬ I 0 1 ≤ nI k := by rw [h1]; exact nI_ge (by omega) (by omega)
    by_cases e1 : J 15 (8 * u + k) = J 17 k
    · by_cases e2 : J 16 (8 * u + k) = J 18 k
      · obtain ⟨w, k1, k2⟩ := ih (k + 1) (by omega) (fun j hj => by
          by_cases e : j = k
          · rw [e]; exact ⟨e1, e2⟩
          · exact h j (by omega))
        refine ⟨w, ?_, k2⟩
        have q := rp_isHere_2_2 (C := C) (v := some (.int w)) (τ := (rk_R, I, J)) I J (nI u) (nI k) hge
        rw [e8, cl, clk, nI_1] at q
        exact q v16 v8 (lg_eq.mpr e1) v16 v8 (lg_eq.mpr e2) k1
      · have q := rp_isHere_2_3 (C := C) I J (nI u) (nI k) hge
        rw [e8, cl, clk] at q
        exact ⟨0, q v16 v8 (lg_eq.mpr e1) v16 v8 (fun z => e2 (lg_eq.mp z)), Or.inr ⟨rfl, fun z => e2 (z k (by omega)).2⟩⟩
    · have q := rp_isHere_2_1 (C := C) I J (nI u) (nI k) hge
      rw [e8, cl, clk] at q
      exact ⟨0, q v16 v8 (fun z => e1 (lg_eq.mp z)), Or.inr ⟨rfl, fun z => e1 (z k (by omega)).1⟩⟩
theorem rs_isHere {u : Nat} (hp : p ≤ 8) (hu : u < 2000) (h1 : I 0 1 = nI p) : ∃ w : Int32, rk_call (d + 1) 25 [.ref 0, .int (nI u)] (rk_R, I, J) (some (.int w)) (rk_R, I, J) ∧ ((w = 1 ∧ fd_h p J u) ∨ (w = 0 ∧ ¬ fd_h p J u)) := by
  obtain ⟨w, k1, k2⟩ := rs_isHere2 (C := rk_call d) (J := J) hp hu h1 p 0 (Nat.zero_add p) (fun j hj => absurd hj (Nat.not_lt_zero j))
  exact ⟨w, ij_cr_of (Nat.le_of_ble_eq_true rfl) (rp_isHere_0_0 I J _ k1), k2⟩
/-- the hash so far -/
def fd_s (J : Nat → Nat → Int64) : Nat → Int64
  | 0 => 0
  | k + 1 => fd_s J k * 1000003 + J 17 k * 31 + J 18 k
def fd_y (z : Int64) : Nat := (((z ^^^ (z >>> ((29 : Int32).toInt64 &&& 63))) ^^^ (z >>> ((13 : Int32).toInt64 &&& 63))) &&& 8191).toBitVec.toNat
theorem fd_y_lt (z : Int64) : fd_y z < 8192 := by
  unfold fd_y
  rw [Int64.toBitVec_and, BitVec.toNat_and]
  exact Nat.lt_of_le_of_lt Nat.and_le_right (by decide)
theorem fd_y_eq (z : Int64) : (((z ^^^ (z >>> ((29 : Int32).toInt64 &&& 63))) ^^^ (z >>> ((13 : Int32).toInt64 &&& 63))) &&& 8191).toInt32 = nI (fd_y z) := by
  apply Int32.toBitVec_inj.mp
  apply BitVec.eq_of_toNat_eq
  have h := fd_y_lt z
  rw [Int64.toBitVec_toInt32, BitVec.signExtend_eq_setWidth_of_le _ (by decide), BitVec.toNat_setWidth]
  show fd_y z % 2 ^ 32 = (BitVec.ofNat 32 (fd_y z)).toNat
  rw [BitVec.toNat_ofNat]
theorem rs_spot4 {C : ij_R} (hp : p ≤ 8) (h1 : I 0 1 = nI p) : ∀ (r k : Nat), k + r = p → rk_go C 24 (4, [some (.ref 0), some (.long (fd_s J k)), none, some (.int (nI k))], [], (rk_R, I, J)) (some (.int (nI (fd_y (fd_s J p))))) (rk_R, I, J) := by
  intro r
  induction r with
  | zero =>
    intro k hk
    have : k = p := by omega
    subst this
    have q := rp_spot_4_0 (C := C) I J (nI k) (fd_s J k) (by rw [h1]; exact nI_le (Nat.le_refl k) (by omega))
    rw [fd_y_eq] at q
    exact q
  | succ r ih =>
    intro k hk
    have v8 : vp_in (nI k) 8 := vp_in_nI (by omega) (by decide)
    have q := rp_spot_4_1 (C := C) (v := some (.int (nI (fd_y (fd_s J p))))) (τ := (rk_R, I, J)) I J (nI k) (fd_s J k) (by rw [h1]; exact nI_ge (by omega) (by omega)) v8 v8
    rw [nI_clamp (by omega), nI_1] at q
    exact q (ih (k + 1) (by omega))
theorem rs_spot (hp : p ≤ 8) (h1 : I 0 1 = nI p) : rk_call (d + 1) 24 [.ref 0] (rk_R, I, J) (some (.int (nI (fd_y (fd_s J p))))) (rk_R, I, J) :=
  ij_cr_of (Nat.le_of_ble_eq_true rfl) (rp_spot_0_0 I J (rs_spot4 hp h1 p 0 (Nat.zero_add p)))
/-- the table of places: what it holds, 0 or a tile's number and 1 -/
def fd_t (tb : Nat → Nat) (I : Nat → Nat → Int32) : Prop := ∀ y, y < 8192 → I 21 y = nI (tb y) ∧ tb y ≤ 2000
theorem rs_found5 {tb : Nat → Nat} (hp : p ≤ 8) (h1 : I 0 1 = nI p) (ht : fd_t tb I) : ∀ (k y : Nat), y < 8192 → (∀ i, i < k → tb ((y + i) % 8192) ≠ 0 ∧ ¬ fd_h p J (tb ((y + i) % 8192) - 1)) → (tb ((y + k) % 8192) = 0 → rk_go (rk_call (d + 1)) 26 (5, [some (.ref 0), some (.int (nI y))], [], (rk_R, I, J)) (some (.int (-1 - nI ((y + k) % 8192)))) (rk_R, I, J)) ∧ (tb ((y + k) % 8192) ≠ 0 → fd_h p J (tb ((y + k) % 8192) - 1) → rk_go (rk_call (d + 1)) 26 (5, [some (.ref 0), some (.int (nI y))], [], (rk_R, I, J)) (some (.int (nI (tb ((y + k) % 8192) - 1)))) (rk_R, I, J)) := by
  intro k
  induction k with
  | zero =>
    intro y hy _
    rw [Nat.add_zero, Nat.mod_eq_of_lt hy]
    obtain ⟨t1, t2⟩ := ht y hy
    have vy : vp_in (nI y) 8192 := vp_in_nI hy (by decide)
    have cl : (nI y).toNatClampNeg = y := nI_clamp (by omega)
    refine ⟨fun e => ?_, fun e hh => ?_⟩
    · exact rp_found_5_0 I J (nI y) vy (by rw [cl, t1, e]; rfl)
    · obtain ⟨w, k1, k2⟩ := rs_isHere (d := d) (J := J) (u := tb y - 1) hp (by omega) h1
      have w1 : w = 1 := by
        rcases k2 with z | z
        · exact z.1
        · exact absurd hh z.2
      have q := rp_found_5_1 (C := rk_call (d + 1)) (v := some (.int (nI (tb y - 1)))) (τ := (rk_R, I, J)) (I' := I) (J' := J) I J (nI y) vy
      rw [cl, t1, nI_sub1 (show 1 ≤ tb y by omega)] at q
      refine q (nI_ne0 (by omega) (by omega)) vy w k1 ?_
      have q2 := rp_found_26_1 (C := rk_call (d + 1)) I J (nI y) w (by rw [w1]; decide) vy
      rw [cl, t1, nI_sub1 (show 1 ≤ tb y by omega)] at q2
      exact q2
  | succ k ih =>
    intro y hy hf
    obtain ⟨t1, t2⟩ := ht y hy
    have vy : vp_in (nI y) 8192 := vp_in_nI hy (by decide)
    have cl : (nI y).toNatClampNeg = y := nI_clamp (by omega)
    obtain ⟨f1, f2⟩ := hf 0 (by omega)
    rw [Nat.add_zero, Nat.mod_eq_of_lt hy] at f1 f2
    have em : ∀ i, ((y + 1) % 8192 + i) % 8192 = (y + (i + 1)) % 8192 := fun i => by omega
    have hi := ih ((y + 1) % 8192) (Nat.mod_lt _ (by decide)) (fun i hi => by rw [em]; exact hf (i + 1) (by omega))
    rw [em] at hi
    obtain ⟨w, k1, k2⟩ := rs_isHere (d := d) (J := J) (u := tb y - 1) hp (by omega) h1
    have w0 : w = 0 := by
      rcases k2 with z | z
      · exact absurd z.2 f2
      · exact z.1
    have step : ∀ v τ, rk_go (rk_call (d + 1)) 26 (5, [some (.ref 0), some (.int (nI ((y + 1) % 8192)))], [], (rk_R, I, J)) v τ → rk_go (rk_call (d + 1)) 26 (5, [some (.ref 0), some (.int (nI y))], [], (rk_R, I, J)) v τ := fun v τ hg => by
      have q := rp_found_5_1 (C := rk_call (d + 1)) (v := v) (τ := τ) (I' := I) (J' := J) I J (nI y) vy
      rw [cl, t1, nI_sub1 (show 1 ≤ tb y by omega)] at q
      refine q (nI_ne0 (by omega) (by omega)) vy w k1 ?_
      have q2 := rp_found_26_0 (C := rk_call (d + 1)) (v := v) (τ := τ) I J (nI y) w w0
      rw [nI_1, pk_andN (n := y + 1) (by omega) (m := 8191) 13 (by decide)] at q2
      exact q2 hg
    exact ⟨fun e => step _ _ (hi.1 e), fun e hh => step _ _ (hi.2 e hh)⟩
/-- the look-up: k places on from the hash -/
theorem rs_found {tb : Nat → Nat} {k : Nat} (hp : p ≤ 8) (h1 : I 0 1 = nI p) (ht : fd_t tb I) (hf : ∀ i, i < k → tb ((fd_y (fd_s J p) + i) % 8192) ≠ 0 ∧ ¬ fd_h p J (tb ((fd_y (fd_s J p) + i) % 8192) - 1)) : (tb ((fd_y (fd_s J p) + k) % 8192) = 0 → rk_call (d + 2) 26 [.ref 0] (rk_R, I, J) (some (.int (-1 - nI ((fd_y (fd_s J p) + k) % 8192)))) (rk_R, I, J)) ∧ (tb ((fd_y (fd_s J p) + k) % 8192) ≠ 0 → fd_h p J (tb ((fd_y (fd_s J p) + k) % 8192) - 1) → rk_call (d + 2) 26 [.ref 0] (rk_R, I, J) (some (.int (nI (tb ((fd_y (fd_s J p) + k) % 8192) - 1)))) (rk_R, I, J)) := by
  have q := rs_found5 (d := d) (J := J) hp h1 ht k (fd_y (fd_s J p)) (fd_y_lt _) hf
  have s : ∀ v τ, rk_go (rk_call (d + 1)) 26 (5, [some (.ref 0), some (.int (nI (fd_y (fd_s J p))))], [], (rk_R, I, J)) v τ → rk_call (d + 2) 26 [.ref 0] (rk_R, I, J) v τ := fun v τ hg => ij_cr_of (Nat.le_of_ble_eq_true rfl) (rp_found_0_0 I J _ (rs_spot (d := d) hp h1) (rp_found_4_0 I J _ hg))
  exact ⟨fun e => s _ _ (q.1 e), fun e hh => s _ _ (q.2 e hh)⟩
end FD1
