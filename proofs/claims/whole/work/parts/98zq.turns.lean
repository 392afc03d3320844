/-! ===== laying a board: the reference turns a vector over a side ===== -/
theorem tn_sub {a b : Nat} (h : b ≤ a) : lN a - lN b = lN (a - b) := by
  have : lN a = lN (a - b) + lN b := by rw [lN_add, Nat.sub_add_cancel h]
  rw [this]
  exact Int64.add_sub_cancel _ _
/-- a vector turned over side s -/
def tn_r (P : Nat) (c V : Nat → Nat) (s j : Nat) : Nat := if j = s then (P - V s) % P else (V j + c j * V s) % P
theorem tn_r_lt {P : Nat} (hP : 0 < P) (c V : Nat → Nat) (s j : Nat) : tn_r P c V s j < P := by
  unfold tn_r
  by_cases e : j = s
  · rw [if_pos e]; exact Nat.mod_lt _ hP
  · rw [if_neg e]; exact Nat.mod_lt _ hP
theorem tn_big {P a c v : Nat} (hP : P < 2 ^ 31) (ha : a < P) (hc : c < P) (hv : v < P) : a + c * v < 2 ^ 63 := by
  have h1 : c * v ≤ (2 ^ 31 - 1) * (2 ^ 31 - 1) := Nat.mul_le_mul (by omega) (by omega)
  have h2 : (2 ^ 31 - 1) * (2 ^ 31 - 1) + 2 ^ 31 < 2 ^ 63 := by decide
  omega
section TN1
variable {d p : Nat} {I : Nat → Nat → Int32} {c1 c2 V1 V2 : Nat → Nat} {t s : Nat}
theorem rs_turns28 {C : ij_R} (hp : p ≤ 8) (ht : t < 2000) (hs : s < p) (h1 : I 0 1 = nI p) : ∀ (r k : Nat) (J : Nat → Nat → Int64), k + r = p → (∀ j, j < p → (J 15 (8 * t + j) = lN (V1 j) ∧ V1 j < an_P1 ∧ J 19 (8 * s + j) = lN (c1 j) ∧ c1 j < an_P1) ∧ (J 16 (8 * t + j) = lN (V2 j) ∧ V2 j < an_P2 ∧ J 20 (8 * s + j) = lN (c2 j) ∧ c2 j < an_P2)) → (∀ j, j < k → J 17 j = lN (tn_r an_P1 c1 V1 s j) ∧ J 18 j = lN (tn_r an_P2 c2 V2 s j)) → ∃ J' : Nat → Nat → Int64, rk_go C 23 (28, [some (.ref 0), some (.int (nI t)), some (.int (nI s)), some (.long (lN (V1 s))), none, some (.long (lN (V2 s))), none, some (.int (nI k))], [], (rk_R, I, J)) none (rk_R, I, J') ∧ (∀ j, j < p → J' 17 j = lN (tn_r an_P1 c1 V1 s j) ∧ J' 18 j = lN (tn_r an_P2 c2 V2 s j)) ∧ ∀ q, q ≠ 17 → q ≠ 18 → J' q = J q := by
  intro r
  induction r with
  | zero =>
    intro k J hk hv h
    have : k = p := by omega
    subst this
    exact ⟨J, rp_turns_28_0 I J _ _ _ _ _ (by rw [h1]; exact nI_le (Nat.le_refl k) (by omega)), h, fun _ _ _ => rfl⟩
  | succ r ih =>
    intro k J hk hv h
    have e8 : (8 : Int32) * nI t + nI k = nI (8 * t + k) := lr_8' t k
    have e8s : (8 : Int32) * nI s + nI k = nI (8 * s + k) := lr_8' s k
    have cl : (nI (8 * t + k)).toNatClampNeg = 8 * t + k := nI_clamp (by omega)
    have cls : (nI (8 * s + k)).toNatClampNeg = 8 * s + k := nI_clamp (by omega)
    have clk : (nI k).toNatClampNeg = k := nI_clamp (by omega)
    have v16 : vp_in (nI (8 * t + k)) 16000 := vp_in_nI (by omega) (by decide)
    have v64 : vp_in (nI (8 * s + k)) 64 := vp_in_nI (by omega) (by decide)
    have v8 : vp_in (nI k) 8 := vp_in_nI (by omega) (by decide)
    have hge : ¬ I 0 1 ≤ nI k := by rw [h1]; exact nI_ge (by omega) (by omega)
    have b1 : an_P1 = 2147478481 := rfl
    have b2 : an_P2 = 2147463361 := rfl
    obtain ⟨⟨a1, a2, a3, a4⟩, g1, g2, g3, g4⟩ := hv k (by omega)
    obtain ⟨⟨_, s2, _, _⟩, _, s4, _, _⟩ := hv s hs
    have jj : ∀ q, q ≠ 17 → q ≠ 18 → ij_u (ij_u J 17 k (lN (tn_r an_P1 c1 V1 s k))) 18 k (lN (tn_r an_P2 c2 V2 s k)) q = J q := fun q x1 x2 => (ij_u_ne x2).trans (ij_u_ne x1)
    obtain ⟨J', z1, z2, z3⟩ := ih (k + 1) (ij_u (ij_u J 17 k (lN (tn_r an_P1 c1 V1 s k))) 18 k (lN (tn_r an_P2 c2 V2 s k))) (by omega) (fun j hj => by
      rw [jj 15 (by decide) (by decide), jj 16 (by decide) (by decide), jj 19 (by decide) (by decide), jj 20 (by decide) (by decide)]
      exact hv j hj) (fun j hj => by
      by_cases e : j = k
      · subst e
        exact ⟨(congrFun (ij_u_ne (by decide)) _).trans (ij_u_same _ _ _ _), ij_u_same _ _ _ _⟩
      · have z := h j (by omega)
        exact ⟨((congrFun (ij_u_ne (by decide)) _).trans (ij_u_other _ _ _ _ e)).trans z.1, ((ij_u_other _ _ _ _ e).trans (congrFun (ij_u_ne (by decide)) _)).trans z.2⟩)
    refine ⟨J', ?_, z2, fun q x1 x2 => (z3 q x1 x2).trans (jj q x1 x2)⟩
    by_cases e : k = s
    · have r1 : tn_r an_P1 c1 V1 s k = (an_P1 - V1 s) % an_P1 := if_pos e
      have r2 : tn_r an_P2 c2 V2 s k = (an_P2 - V2 s) % an_P2 := if_pos e
      rw [r1, r2] at z1
      have q := rp_turns_28_4 (C := C) (v := none) (τ := (rk_R, I, J')) I J (nI t) (nI s) (nI k) (lN (V1 s)) (lN (V2 s)) hge (by rw [e]) (by decide) v8 (by rw [e]) (by decide) v8
      rw [clk, nI_1, show (2147478481 : Int64) = lN an_P1 from rfl, show (2147463361 : Int64) = lN an_P2 from rfl, tn_sub (show V1 s ≤ an_P1 by omega), tn_sub (show V2 s ≤ an_P2 by omega), an_mod (by decide) (by omega) (by decide), an_mod (by decide) (by omega) (by decide)] at q
      exact q z1
    · have r1 : tn_r an_P1 c1 V1 s k = (V1 k + c1 k * V1 s) % an_P1 := if_neg e
      have r2 : tn_r an_P2 c2 V2 s k = (V2 k + c2 k * V2 s) % an_P2 := if_neg e
      rw [r1, r2] at z1
      have ne : ¬ nI k = nI s := fun z => e ((nI_eq (by omega) (by omega)).mp z)
      have q := rp_turns_28_1 (C := C) (v := none) (τ := (rk_R, I, J')) I J (nI t) (nI s) (nI k) (lN (V1 s)) (lN (V2 s)) hge ne
      rw [e8, e8s, cl, cls, clk, nI_1, a1, a3, g1, g3, show (2147478481 : Int64) = lN an_P1 from rfl, show (2147463361 : Int64) = lN an_P2 from rfl, lN_mul, lN_mul, lN_add, lN_add, an_mod (by decide) (tn_big (P := an_P1) (by decide) a2 a4 s2) (by decide), an_mod (by decide) (tn_big (P := an_P2) (by decide) g2 g4 s4) (by decide)] at q
      exact q v16 v64 (by decide) v8 ne v16 v64 (by decide) v8 z1
/-- the vector of a tile, turned over a side -/
theorem rs_turns {J : Nat → Nat → Int64} (hp : p ≤ 8) (ht : t < 2000) (hs : s < p) (h1 : I 0 1 = nI p) (hv : ∀ j, j < p → (J 15 (8 * t + j) = lN (V1 j) ∧ V1 j < an_P1 ∧ J 19 (8 * s + j) = lN (c1 j) ∧ c1 j < an_P1) ∧ (J 16 (8 * t + j) = lN (V2 j) ∧ V2 j < an_P2 ∧ J 20 (8 * s + j) = lN (c2 j) ∧ c2 j < an_P2)) : ∃ J' : Nat → Nat → Int64, rk_call (d + 1) 23 [.ref 0, .int (nI t), .int (nI s)] (rk_R, I, J) none (rk_R, I, J') ∧ (∀ j, j < p → J' 17 j = lN (tn_r an_P1 c1 V1 s j) ∧ J' 18 j = lN (tn_r an_P2 c2 V2 s j)) ∧ ∀ q, q ≠ 17 → q ≠ 18 → J' q = J q := by
  obtain ⟨J', z1, z2, z3⟩ := rs_turns28 (C := rk_call d) hp ht hs h1 p 0 J (Nat.zero_add p) hv (fun j hj => absurd hj (Nat.not_lt_zero j))
  refine ⟨J', ?_, z2, z3⟩
  have v16 : vp_in (nI (8 * t + s)) 16000 := vp_in_nI (by omega) (by decide)
  have q := rp_turns_0_0 (C := rk_call d) (v := none) (τ := (rk_R, I, J')) I J (nI t) (nI s)
  rw [lr_8' t s, nI_clamp (show 8 * t + s < 2 ^ 31 by omega), (hv s hs).1.1, (hv s hs).2.1] at q
  exact ij_cr_of (Nat.le_of_ble_eq_true rfl) (q v16 v16 z1)
end TN1
