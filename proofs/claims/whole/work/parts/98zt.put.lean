/-! ===== laying a board: a tile more among the vectors ===== -/
def rv_u (V : Nat → Nat → Nat) (n : Nat) (W : Nat → Nat) : Nat → Nat → Nat := fun t => if t = n then W else V t
theorem rv_u_n {V : Nat → Nat → Nat} {n : Nat} {W : Nat → Nat} : rv_u V n W n = W := if_pos rfl
theorem rv_u_t {V : Nat → Nat → Nat} {n t : Nat} {W : Nat → Nat} (h : t < n) : rv_u V n W t = V t := if_neg (by omega)
section RV2
variable {p n : Nat} {I I' : Nat → Nat → Int32} {J J' : Nat → Nat → Int64} {V1 V2 : Nat → Nat → Nat} {W1 W2 : Nat → Nat} {tb : Nat → Nat}
theorem rv_put {k : Nat} (hn : n < 2000) (hv : rv_ok p n V1 V2 tb I J) (hw : ∀ j, j < p → W1 j < an_P1 ∧ W2 j < an_P2) (hno : ∀ t, t < n → ¬ rv_e p (V1 t) (V2 t) W1 W2) (h0 : tb ((fd_y (fd_hs W1 W2 p) + k) % 8192) = 0) (hk : ∀ i, i < k → tb ((fd_y (fd_hs W1 W2 p) + i) % 8192) ≠ 0) (hI : ∀ z, z < 8192 → I' 21 z = ij_u I 21 ((fd_y (fd_hs W1 W2 p) + k) % 8192) (nI (n + 1)) 21 z) (hJ : ∀ t j, t < n → j < p → J' 15 (8 * t + j) = J 15 (8 * t + j) ∧ J' 16 (8 * t + j) = J 16 (8 * t + j)) (hN : ∀ j, j < p → J' 15 (8 * n + j) = lN (W1 j) ∧ J' 16 (8 * n + j) = lN (W2 j)) : rv_ok p (n + 1) (rv_u V1 n W1) (rv_u V2 n W2) (kl_u tb ((fd_y (fd_hs W1 W2 p) + k) % 8192) (n + 1)) I' J' := by
  obtain ⟨v1, v2, v3, v4⟩ := hv
  refine ⟨fun t j ht hj => ?_, fun z hz => ?_, fd_put v3 h0 hk (fun t ht => ?_) ?_, fun t u ht hu he => ?_⟩
  · by_cases e : t = n
    · subst e
      rw [rv_u_n, rv_u_n]
      exact ⟨⟨(hN j hj).1, (hw j hj).1⟩, (hN j hj).2, (hw j hj).2⟩
    · rw [rv_u_t (by omega), rv_u_t (by omega), (hJ t j (by omega) hj).1, (hJ t j (by omega) hj).2]
      exact v1 t j (by omega) hj
  · rw [hI z hz]
    unfold kl_u
    by_cases e : z = (fd_y (fd_hs W1 W2 p) + k) % 8192
    · rw [if_pos e, e, ij_u_same]
      exact ⟨rfl, by omega⟩
    · rw [if_neg e, ij_u_other _ _ _ _ e]
      exact v2 z hz
  · show fd_y (fd_hs (rv_u V1 n W1 t) (rv_u V2 n W2 t) p) = fd_y (fd_hs (V1 t) (V2 t) p)
    rw [rv_u_t ht, rv_u_t ht]
  · show fd_y (fd_hs (rv_u V1 n W1 n) (rv_u V2 n W2 n) p) = fd_y (fd_hs W1 W2 p)
    rw [rv_u_n, rv_u_n]
  · by_cases e : t = n
    · by_cases e' : u = n
      · omega
      · rw [e, rv_u_n, rv_u_n, rv_u_t (by omega), rv_u_t (by omega)] at he
        exact absurd (fun j hj => ⟨(he j hj).1.symm, (he j hj).2.symm⟩) (hno u (by omega))
    · by_cases e' : u = n
      · rw [e', rv_u_n, rv_u_n, rv_u_t (by omega), rv_u_t (by omega)] at he
        exact absurd he (hno t (by omega))
      · rw [rv_u_t (by omega), rv_u_t (by omega), rv_u_t (by omega), rv_u_t (by omega)] at he
        exact v4 t u (by omega) (by omega) he
/-- what the tables of vectors are made of -/
theorem rv_fr (hv : rv_ok p n V1 V2 tb I J) (hI : I' 21 = I 21) (h15 : J' 15 = J 15) (h16 : J' 16 = J 16) : rv_ok p n V1 V2 tb I' J' := by
  obtain ⟨v1, v2, v3, v4⟩ := hv
  refine ⟨fun t j ht hj => ?_, fun z hz => ?_, v3, v4⟩
  · rw [h15, h16]; exact v1 t j ht hj
  · rw [hI]; exact v2 z hz
end RV2
