/-! ===== laying a board: the reference takes a ring back ===== -/
section RB1
variable {C : ij_R} {p n : Nat} {J : Nat → Nat → Int64}
theorem rs_lays188 {t : Nat} (hp : p ≤ 8) (hn : n ≤ 2000) (ht : t < n) : ∀ (r k : Nat) (I : Nat → Nat → Int32), k + r = p → I 0 1 = nI p → ∃ I' : Nat → Nat → Int32, (∀ v τ, rk_go C 29 (179, [some (.ref 0), none, none, some (.int (nI n)), some (.int (nI (t + 1))), none], [], (rk_R, I', J)) v τ → rk_go C 29 (188, [some (.ref 0), none, none, some (.int (nI n)), some (.int (nI t)), some (.int (nI k))], [], (rk_R, I, J)) v τ) ∧ (∀ y, k ≤ y → y < p → I' 7 (8 * t + y) = if I 7 (8 * t + y) < nI n then I 7 (8 * t + y) else -1) ∧ ∀ q z, ¬ (q = 7 ∧ 8 * t + k ≤ z ∧ z < 8 * t + p) → I' q z = I q z := by
  intro r
  induction r with
  | zero =>
    intro k I hk h1
    refine ⟨I, fun v τ hg => ?_, fun y h1 h2 => by omega, fun _ _ _ => rfl⟩
    rw [← nI_1] at hg
    exact rp_lays_188_0 I J _ _ _ (by rw [h1]; exact nI_le (show p ≤ k by omega) (by omega)) hg
  | succ r ih =>
    intro k I hk h1
    have e8 : (8 : Int32) * nI t + nI k = nI (8 * t + k) := lr_8' t k
    have cl : (nI (8 * t + k)).toNatClampNeg = 8 * t + k := nI_clamp (by omega)
    have v16 : vp_in (nI (8 * t + k)) 16000 := vp_in_nI (by omega) (by decide)
    have ge : ¬ I 0 1 ≤ nI k := by rw [h1]; exact nI_ge (by omega) (by omega)
    by_cases e : I 7 (8 * t + k) < nI n
    · obtain ⟨I', k1, k2, k3⟩ := ih (k + 1) I (by omega) h1
      refine ⟨I', fun v τ hg => ?_, fun y a1 a2 => ?_, fun q z hq => k3 q z (fun w => hq ⟨w.1, by omega, w.2.2⟩)⟩
      · have q := rp_lays_188_1 (C := C) (v := v) (τ := τ) I J (nI n) (nI t) (nI k) ge
        rw [e8, cl, nI_1] at q
        exact q v16 e (k1 v τ hg)
      · by_cases ey : y = k
        · rw [ey, if_pos e, k3 7 _ (by omega)]
        · exact k2 y (by omega) a2
    · obtain ⟨I', k1, k2, k3⟩ := ih (k + 1) (ij_u I 7 (8 * t + k) (-1)) (by omega) h1
      refine ⟨I', fun v τ hg => ?_, fun y a1 a2 => ?_, fun q z hq => (k3 q z (fun w => hq ⟨w.1, by omega, w.2.2⟩)).trans (lb_u_at (fun w => hq ⟨w.1, by omega, by omega⟩))⟩
      · have q := rp_lays_188_2 (C := C) (v := v) (τ := τ) I J (nI n) (nI t) (nI k) ge
        rw [e8, cl, nI_1] at q
        exact q v16 e v16 (k1 v τ hg)
      · by_cases ey : y = k
        · rw [ey, if_neg e, k3 7 _ (by omega), ij_u_same]
        · rw [k2 y (by omega) a2, ij_u_other _ _ _ _ (by omega)]
theorem rs_lays179 (hp : p ≤ 8) (hn : n ≤ 2000) : ∀ (r t : Nat) (I : Nat → Nat → Int32), t + r = n → I 0 1 = nI p → ∃ I' : Nat → Nat → Int32, (∀ v τ, rk_go C 29 (248, [some (.ref 0), none, none, none, some (.int 0), none], [], (rk_R, ij_u I' 0 21 (nI n), J)) v τ → rk_go C 29 (179, [some (.ref 0), none, none, some (.int (nI n)), some (.int (nI t)), none], [], (rk_R, I, J)) v τ) ∧ (∀ x y, t ≤ x → x < n → y < p → I' 7 (8 * x + y) = if I 7 (8 * x + y) < nI n then I 7 (8 * x + y) else -1) ∧ (∀ x y, y < 8 → ¬ (t ≤ x ∧ x < n ∧ y < p) → I' 7 (8 * x + y) = I 7 (8 * x + y)) ∧ ∀ q, q ≠ 7 → I' q = I q := by
  intro r
  induction r with
  | zero =>
    intro t I ht h1
    exact ⟨I, fun v τ hg => rp_lays_179_0 I J _ _ (nI_le (show n ≤ t by omega) (by omega)) hg, fun x y a1 a2 => by omega, fun _ _ _ _ => rfl, fun _ _ => rfl⟩
  | succ r ih =>
    intro t I ht h1
    obtain ⟨I1, a1, a2, a3⟩ := rs_lays188 (C := C) (J := J) (t := t) hp hn (by omega) p 0 I (Nat.zero_add p) h1
    obtain ⟨I', k1, k2, k3, k4⟩ := ih (t + 1) I1 (by omega) ((a3 0 1 (by omega)).trans h1)
    refine ⟨I', fun v τ hg => rp_lays_179_1 I J _ _ (nI_ge (show t < n by omega) (by omega)) (a1 v τ (k1 v τ hg)), fun x y b1 b2 b3 => ?_, fun x y b1 b2 => ?_, fun q hq => (k4 q hq).trans (funext fun z => a3 q z (fun w => hq w.1))⟩
    · by_cases e : x = t
      · subst e
        rw [k3 x y (by omega) (by omega)]
        exact a2 y (Nat.zero_le y) b3
      · rw [k2 x y (by omega) b2 b3, a3 7 (8 * x + y) (by omega)]
    · rw [k3 x y b1 (fun w => b2 (by omega)), a3 7 (8 * x + y) (by omega)]
end RB1
