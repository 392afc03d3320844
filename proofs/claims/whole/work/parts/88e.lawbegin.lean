/-! ===== the law's beginning: both objects are made ===== -/
def lk_z32 : Nat → Nat → Int32 := fun _ _ => 0
def lk_z64 : Nat → Nat → Int64 := fun _ _ => 0
def lk_s0 : ij_S := (fun _ _ => 0, fun _ _ => 0, fun _ _ => 0)
/-- the class is made, the reference not yet -/
def lk_A (b : Bool) (I : Nat → Nat → Int32) (J : Nat → Nat → Int64) : ij_S := (fun p k => if p < 46 then xk_R b p k else 0, fun p k => if p < 46 then I p k else 0, fun p k => if p < 46 then J p k else 0)
/-- the claim's room, whatever its last figures are -/
theorem lk_room : 601000 ≤ room_1.cells ∧ 7290000 ≤ room_1.slots := by decide
theorem xk_Rlt (b : Bool) (p k : Nat) : xk_R b p k < 46 := by
  unfold xk_R
  cases (Nat.beq p 19 && (Nat.beq k 1 && b)) with
  | true => rw [cond_true]; decide
  | false =>
    rw [cond_false]
    cases (Nat.beq p 19 && (Nat.beq k 2 && b)) with
    | true => rw [cond_true]; decide
    | false =>
      rw [cond_false]
      cases hx : ij_look xk_Rl (p * 256 + k) with
      | none => decide
      | some v =>
        have h1 : ∀ e ∈ xk_Rl, e.2 < 46 := by decide
        exact h1 _ (ij_look_mem hx)
theorem rk_Rlt (p k : Nat) : rk_R p k < 42 := by
  cases p with
  | succ p => show 0 < 42; decide
  | zero =>
    show rk_Rf k < 42
    by_cases hk : k < 72
    · have : ∀ k, k < 72 → rk_Rf k < 42 := by decide
      exact this k hk
    · obtain ⟨j, rfl⟩ : ∃ j, k = j + 72 := ⟨k - 72, by omega⟩
      have e : rk_Rf (j + 72) = 0 := rfl
      rw [e]
      decide
section LKB
variable {b : Bool} {I : Nat → Nat → Int32} {J : Nat → Nat → Int64} {I2 : Nat → Nat → Int32} {J2 : Nat → Nat → Int64} {X : ij_R} {d SL : Nat} {xs : Nat → Int32} {q' : iy_X}
theorem lk_e1 {σ : ij_S} : ie_put 0 xk_K.length (iy_z lk_s0 0) (ie_put 0 46 σ (xk_R b, I, J)) = lk_A b I J := by
  have hl : xk_K.length = 46 := rfl
  rw [hl]
  unfold ie_put lk_A iy_z lk_s0
  refine Prod.ext ?_ (Prod.ext ?_ ?_) <;> funext p k <;> by_cases hp : p < 46 <;> simp [hp]
theorem lk_e2 {σ : ij_S} : ie_put 46 rk_K.length (iy_z (lk_A b I J) 46) (ie_put 0 42 σ (rk_R, I2, J2)) = lk_S b I J I2 J2 0 := by
  have hl : rk_K.length = 42 := rfl
  rw [hl]
  unfold ie_put lk_A iy_z lk_S
  refine Prod.ext ?_ (Prod.ext ?_ ?_) <;> funext p k <;> by_cases hp : p < 46 <;> by_cases hq : p < 88
  all_goals
    have e1 : (46 ≤ p ∧ p < 46 + 42) ↔ (¬ p < 46 ∧ p < 88) := by omega
    have e2 : p - 46 < 42 ↔ p < 88 := by omega
    have e3 : p < 46 → ¬ p = 46 := by omega
    have e4 : p < 46 → ¬ 46 ≤ p := by omega
    simp [e1, e2, hp, hq]
    try (intro h9; omega)
    try rw [if_neg (by omega), if_neg (by omega)]
theorem lk_e3 : iy_z (lk_S b I J I2 J2 0) 88 = lk_S b I J I2 J2 0 := by
  unfold iy_z lk_S
  refine Prod.ext rfl (Prod.ext ?_ ?_) <;> funext p k <;> by_cases hp : p = 88
  · subst hp; simp
  · simp [hp]
  · subst hp; simp
  · simp [hp]
theorem lk_bA : iy_b 46 (lk_A b I J) := fun p k => by
  show (if p < 46 then xk_R b p k else 0) < 46
  split
  · exact xk_Rlt b p k
  · decide
theorem lk_bS {o : Int64} : iy_b 88 (lk_S b I J I2 J2 o) := fun p k => by
  show (if p < 46 then xk_R b p k else if p < 88 then 46 + rk_R (p - 46) k else 0) < 88
  split
  · exact Nat.lt_of_lt_of_le (xk_Rlt b p k) (by decide)
  · split
    · have := rk_Rlt (p - 46) k
      omega
    · decide
theorem lk_ft73 : (List.range 11).all (fun k => Nat.beq (ij_ft xk_P 73 k) (ij_ft lk_P 73 k) && !(Nat.beq (ij_ft xk_P 73 k) 3)) = true := by decide +kernel
theorem lk_ft80 : (List.range 72).all (fun k => Nat.beq (ij_ft rc_P 80 k) (ij_ft lk_P 80 k) && !(Nat.beq (ij_ft rc_P 80 k) 3)) = true := by decide +kernel
theorem lk_one {α : Type} {x y : α} {p : Nat} (h : [x][p]? = some y) : p = 0 ∧ x = y := by
  cases p with
  | zero => exact ⟨rfl, Option.some.inj h⟩
  | succ p => cases h
/-- the class is made in the law's world -/
theorem lk_n1 (hx : lk_cx1 X (d + 2) 139 [.ref 0] (xk_R false, xk_SI lk_z32, xk_SJ lk_z64) none (xk_R b, I, J)) : lk_C3 X (d + 3) 162 [.ref 0] [.inl 73] (iy_z lk_s0 0) xk_K (lk_A b I J) := by
  refine Or.inl ⟨162, [.ref 0], [], [.inl 73], (fun _ _ => 0, lk_z32, lk_z64), xk_K, ie_put 0 46 (xk_SR, xk_SI lk_z32, xk_SJ lk_z64) (xk_R b, I, J), by decide, rfl, rfl, rfl, rfl, lk_e1.symm, ⟨fun p k h => ?_, fun p ci h => ?_, fun p hp k => ?_⟩, fun p ci k h hk h3 => ?_, fun p ci k h hk h3 => ?_, by decide, by decide, fun p ci h => ⟨(lk_nfx (lk_kx p ci h)).symm, fun k _ => (lk_ftx (lk_kx p ci h) k).symm⟩, fun p ci k h => ?_, xc_ctor X d lk_z32 lk_z64 hx⟩
  · rw [show ([] : ij_Ks).length + p = p from Nat.zero_add p]
    exact h
  · obtain ⟨rfl, hc⟩ := lk_one h
    obtain rfl := Sum.inl.inj hc
    refine ⟨rfl, fun k hk => ?_⟩
    have hf := List.all_eq_true.mp lk_ft73 k (List.mem_range.mpr hk)
    rw [Bool.and_eq_true, Bool.not_eq_true'] at hf
    refine ⟨Nat.eq_of_beq_eq_true hf.1, fun h3 => ?_⟩
    rw [h3] at hf
    exact absurd hf.2 (by decide)
  · have hp : p < 1 := hp
    obtain rfl : p = 0 := by omega
    exact ⟨rfl, rfl⟩
  · obtain ⟨rfl, hc⟩ := lk_one h
    obtain rfl := Sum.inl.inj hc
    have hf := List.all_eq_true.mp lk_ft73 k (List.mem_range.mpr hk)
    rw [Bool.and_eq_true, Bool.not_eq_true', h3] at hf
    exact absurd hf.2 (by decide)
  · have hp : p < 46 := (List.getElem?_eq_some_iff.mp h).1
    show (if 0 ≤ p ∧ p < 0 + 46 then 0 + xk_R b (p - 0) k else xk_SR p k) < 46
    rw [if_pos ⟨by omega, by omega⟩]
    have := xk_Rlt b (p - 0) k
    omega
  · cases h
theorem lk_n2 (hm : lk_cr1 (d + 2) 29 [.ref 0] (rk_R, rk_SI lk_z32, rk_SJ lk_z64) none (rk_R, I2, J2)) : lk_C3 X (d + 3) 238 [.ref 46] (xk_K ++ [.inl 80]) (iy_z (lk_A b I J) 46) (xk_K ++ rk_K) (lk_S b I J I2 J2 0) := by
  refine Or.inr ⟨75, [.ref 0], xk_K, [.inl 80], (fun _ _ => 0, lk_z32, lk_z64), rk_K, ie_put 0 42 (rk_SR, rk_SI lk_z32, rk_SJ lk_z64) (rk_R, I2, J2), by decide, rfl, rfl, rfl, rfl, lk_e2.symm, ⟨fun p k h => ?_, fun p ci h => ?_, fun p hp k => ?_⟩, fun p ci k h hk h3 => ?_, fun p ci k h hk h3 => ?_, by decide, by decide, fun p ci h => ?_, fun p ci k h hk h3 => ?_, rc_ctor (d + 2) lk_z32 lk_z64 hm⟩
  · obtain ⟨rfl, hc⟩ := lk_one h
    subst hc
    rfl
  · obtain ⟨rfl, hc⟩ := lk_one h
    obtain rfl := Sum.inl.inj hc
    refine ⟨rfl, fun k hk => ?_⟩
    have hf := List.all_eq_true.mp lk_ft80 k (List.mem_range.mpr hk)
    rw [Bool.and_eq_true, Bool.not_eq_true'] at hf
    refine ⟨Nat.eq_of_beq_eq_true hf.1, fun h3 => ?_⟩
    rw [h3] at hf
    exact absurd hf.2 (by decide)
  · have hp : p < 1 := hp
    obtain rfl : p = 0 := by omega
    exact ⟨rfl, rfl⟩
  · obtain ⟨rfl, hc⟩ := lk_one h
    obtain rfl := Sum.inl.inj hc
    have hf := List.all_eq_true.mp lk_ft80 k (List.mem_range.mpr hk)
    rw [Bool.and_eq_true, Bool.not_eq_true', h3] at hf
    exact absurd hf.2 (by decide)
  · have hp : p < 42 := (List.getElem?_eq_some_iff.mp h).1
    show (if 0 ≤ p ∧ p < 0 + 42 then 0 + rk_R (p - 0) k else rk_SR p k) < 42
    rw [if_pos ⟨by omega, by omega⟩]
    have := rk_Rlt (p - 0) k
    omega
  · obtain rfl := rk_K11 p ci h
    exact ⟨rfl, fun k _ => rfl⟩
  · refine Or.inl ?_
    have h9 := lk_bA (b := b) (I := I) (J := J) p k
    exact Nat.lt_of_lt_of_le h9 (by decide)
set_option maxRecDepth 100000 in
set_option maxHeartbeats 4000000 in
/-- from the law's entry to its loop -/
theorem lk_first (hx : lk_cx1 X (d + 2) 139 [.ref 0] (xk_R false, xk_SI lk_z32, xk_SJ lk_z64) none (xk_R b, I, J)) (hm : lk_cr1 (d + 2) 29 [.ref 0] (rk_R, rk_SI lk_z32, rk_SJ lk_z64) none (rk_R, I2, J2)) (hg : lk_g X (d + 2) SL xs (lk_hd 89 122923 (nI 0) (lk_S b I J I2 J2 0)) q') : lk_g X (d + 2) SL xs (0, 0, [], 0, ij_in [.ref 1000] 8, [], lk_s0) q' := by
  refine iy_G_path [0, 0] (φ := [iy_wf lk_P lk_nf [] (0, ij_in [.ref 1000] 8, [], lk_s0) = true]) (z := (1, 11, [.inl 73], 4, [some (.ref 1000), none, none, none, none, none, none, none], [.ref 0, .ref 0], iy_z lk_s0 0)) rfl (show iy_wf lk_P lk_nf [] (0, ij_in [.ref 1000] 8, [], lk_s0) = true by decide +kernel) ?_
  refine iy_G_c3 (i := 85) (j := 162) (b := 0) (r := [.ref 0]) rfl (by decide +kernel) rfl rfl (Nat.le_of_ble_eq_true rfl) (by decide +kernel) (lk_n1 hx) (by decide) (by decide +kernel) (by decide +kernel) ?_
  refine iy_G_path [0, 0, 0] (φ := [iy_wf lk_P lk_nf xk_K (8, [some (.ref 1000), some (.ref 0), none, none, none, none, none, none], [], lk_A b I J) = true]) (z := (47, 37639, xk_K ++ [.inl 80], 12, [some (.ref 1000), some (.ref 0), none, none, none, none, none, none], [.ref 46, .ref 46], iy_z (lk_A b I J) 46)) rfl (iy_wf_of (n := 46) (Nat.le_refl _) lk_bA rfl rfl) ?_
  refine iy_G_c3 (i := 88) (j := 238) (b := 46) (r := [.ref 46]) rfl (by decide +kernel) rfl rfl (Nat.le_of_ble_eq_true rfl) (iy_wf_of (n := 46) (by decide) (iy_b_z lk_bA) rfl rfl) (lk_n2 hm) (by decide) (by decide +kernel) (by decide +kernel) ?_
  refine iy_G_path [0, 0, 0] (φ := [iy_wf lk_P lk_nf (xk_K ++ rk_K) (17, [some (.ref 1000), some (.ref 0), some (.ref 46), none, none, none, none, none], [], lk_S b I J I2 J2 0) = true]) (z := (89, 122923, lk_K, 19, [some (.ref 1000), some (.ref 0), some (.ref 46), none, none, none, none, none], [.ref 88], iy_z (lk_S b I J I2 J2 0) 88)) rfl (iy_wf_of (n := 88) (Nat.le_refl _) lk_bS rfl rfl) ?_
  rw [lk_e3]
  exact iy_G_path [0, 0, 0] (φ := []) (z := (89, 122923, lk_K, 23, [some (.ref 1000), some (.ref 0), some (.ref 46), some (.ref 88), some (.int (nI 0)), none, none, none], [], lk_S b I J I2 J2 0)) rfl trivial hg
/-- THE CLAIM'S RUN: the beginning is tied, and every call answers alike -/
theorem lk_law {R : lk_Rl} (hd : d ≤ 990) (hx : ∃ (b : Bool) (I : Nat → Nat → Int32) (J : Nat → Nat → Int64) (I2 : Nat → Nat → Int32) (J2 : Nat → Nat → Int64), lk_cx1 xw_X (d + 2) 139 [.ref 0] (xk_R false, xk_SI lk_z32, xk_SJ lk_z64) none (xk_R b, I, J) ∧ lk_cr1 (d + 2) 29 [.ref 0] (rk_R, rk_SI lk_z32, rk_SJ lk_z64) none (rk_R, I2, J2) ∧ R b I J I2 J2) (hq : lk_calls xw_X (d + 2) R) (hL : SL ≤ 3072) : lk_run SL xs := by
  obtain ⟨b, I, J, I2, J2, h1, h2, h3⟩ := hx
  obtain ⟨u', v', pc, Lo, τ, g1, g2, g3, g4⟩ := lk_loop (xs := xs) hq hL (SL / 6) 0 89 122923 b I J I2 J2 0 (by omega) (by omega) (by have := lk_room.1; omega) (by have := lk_room.2; omega) h3
  exact ⟨d + 2, u', v', lk_K, pc, Lo, τ, lk_s0, by omega, lk_first h1 h2 g4, g3, g1, g2⟩
end LKB
