/-! ===== laying a board: the class takes a ring back ===== -/
section TB1
variable {d f n : Nat} {b : Bool} {X : ij_R} {J : Nat → Nat → Int64}
theorem lx_takeBack10 {C : ij_R} (hn : n ≤ 2000) : ∀ (r k : Nat) (I : Nat → Nat → Int32), k + r = 8 * n → ∃ I' : Nat → Nat → Int32, xk_go C 50 (10, [some (.ref 6), none, some (.int (nI n)), some (.int (nI k))], [], (xk_R b, I, J)) none (xk_R b, I', J) ∧ (∀ y, k ≤ y → y < 8 * n → I' 9 y = if I 9 y < nI n then I 9 y else -1) ∧ ∀ q y, ¬ (q = 9 ∧ k ≤ y ∧ y < 8 * n) → I' q y = I q y := by
  have e8 : nI n * 8 = nI (8 * n) := by rw [Int32.mul_comm, show (8 : Int32) = nI 8 from rfl, pk_mul]
  intro r
  induction r with
  | zero =>
    intro k I hk
    exact ⟨I, xp_X2_takeBackRing_10_0 I J _ _ (by rw [e8]; exact nI_le (by omega) (by omega)), fun y h1 h2 => by omega, fun _ _ _ => rfl⟩
  | succ r ih =>
    intro k I hk
    have ge : ¬ nI n * 8 ≤ nI k := by rw [e8]; exact nI_ge (by omega) (by omega)
    have g16 : ¬ (16000 : Int32) ≤ nI k := nI_ge (b := 16000) (by omega) (by decide)
    have vk : vp_in (nI k) 16000 := vp_in_nI (by omega) (by decide)
    have cl : (nI k).toNatClampNeg = k := nI_clamp (by omega)
    by_cases e : I 9 k < nI n
    · obtain ⟨I', k1, k2, k3⟩ := ih (k + 1) I (by omega)
      refine ⟨I', ?_, fun y h1 h2 => ?_, fun q y hq => k3 q y (fun z => hq ⟨z.1, by omega, z.2.2⟩)⟩
      · rw [← nI_1] at k1
        exact xp_X2_takeBackRing_10_3 I J _ _ ge (by decide) g16 (nI_pos (by omega)) vk (by rw [cl]; exact e) k1
      · by_cases ey : y = k
        · rw [ey, if_pos e, k3 9 k (by omega)]
        · exact k2 y (by omega) h2
    · obtain ⟨I', k1, k2, k3⟩ := ih (k + 1) (ij_u I 9 k (-1)) (by omega)
      refine ⟨I', ?_, fun y h1 h2 => ?_, fun q y hq => (k3 q y (fun z => hq ⟨z.1, by omega, z.2.2⟩)).trans (lb_u_at (fun z => hq ⟨z.1, by omega, by omega⟩))⟩
      · have q := xp_X2_takeBackRing_10_4 (C := C) (v := none) (τ := (xk_R b, I', J)) (b := b) I J (nI n) (nI k) ge (by decide) g16 (nI_pos (by omega)) vk
        rw [cl, nI_1] at q
        exact q e vk k1
      · by_cases ey : y = k
        · rw [ey, if_neg e, k3 9 k (by omega), ij_u_same]
        · rw [k2 y (by omega) h2, ij_u_other _ _ _ _ ey]
/-- tiles from n on are taken back; f is where the ring before them begins -/
theorem lx_takeBack {I : Nat → Nat → Int32} (hf : f ≤ n) (hn : n ≤ 2000) : ∃ I' : Nat → Nat → Int32, lk_cx1 X (d + 1) 50 [.ref 6, .int (nI f), .int (nI n)] (xk_R b, I, J) none (xk_R b, I', J) ∧ I' 6 9 = nI n ∧ (∀ y, 8 * f ≤ y → y < 8 * n → I' 9 y = if I 9 y < nI n then I 9 y else -1) ∧ ∀ q y, ¬ (q = 6 ∧ y = 9) → ¬ (q = 9 ∧ 8 * f ≤ y ∧ y < 8 * n) → I' q y = I q y := by
  have e8 : nI f * 8 = nI (8 * f) := by rw [Int32.mul_comm, show (8 : Int32) = nI 8 from rfl, pk_mul]
  obtain ⟨I', k1, k2, k3⟩ := lx_takeBack10 (C := ik_cr xk_P xk_M xk_Y xk_K X d) (b := b) (J := J) hn (8 * n - 8 * f) (8 * f) (ij_u I 6 9 (nI n)) (by omega)
  have q := xp_X2_takeBackRing_0_0 (C := ik_cr xk_P xk_M xk_Y xk_K X d) (v := none) (τ := (xk_R b, I', J)) (b := b) I J (nI f) (nI n)
  rw [e8] at q
  exact ⟨I', ik_cr_of (Nat.le_of_ble_eq_true rfl) (q k1), (k3 6 9 (by omega)).trans rfl, k2, fun q y x1 x2 => (k3 q y x2).trans (lb_u_at x1)⟩
end TB1
