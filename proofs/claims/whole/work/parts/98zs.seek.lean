/-! ===== laying a board: the reference's tiles and their vectors ===== -/
/-- the hash of a vector -/
def fd_hs (W1 W2 : Nat → Nat) : Nat → Int64
  | 0 => 0
  | k + 1 => fd_hs W1 W2 k * 1000003 + lN (W1 k) * 31 + lN (W2 k)
theorem fd_hs_s {W1 W2 : Nat → Nat} {J : Nat → Nat → Int64} : ∀ {p : Nat}, (∀ j, j < p → J 17 j = lN (W1 j) ∧ J 18 j = lN (W2 j)) → fd_s J p = fd_hs W1 W2 p := by
  intro p
  induction p with
  | zero => intro _; rfl
  | succ p ih =>
    intro h
    show fd_s J p * 1000003 + J 17 p * 31 + J 18 p = fd_hs W1 W2 p * 1000003 + lN (W1 p) * 31 + lN (W2 p)
    rw [ih (fun j hj => h j (by omega)), (h p (by omega)).1, (h p (by omega)).2]
theorem fd_hs_c {W1 W2 U1 U2 : Nat → Nat} : ∀ {p : Nat}, (∀ j, j < p → W1 j = U1 j ∧ W2 j = U2 j) → fd_hs W1 W2 p = fd_hs U1 U2 p := by
  intro p
  induction p with
  | zero => intro _; rfl
  | succ p ih =>
    intro h
    show fd_hs W1 W2 p * 1000003 + lN (W1 p) * 31 + lN (W2 p) = fd_hs U1 U2 p * 1000003 + lN (U1 p) * 31 + lN (U2 p)
    rw [ih (fun j hj => h j (by omega)), (h p (by omega)).1, (h p (by omega)).2]
/-- two vectors are the same -/
def rv_e (p : Nat) (W1 W2 U1 U2 : Nat → Nat) : Prop := ∀ j, j < p → W1 j = U1 j ∧ W2 j = U2 j
/-- n tiles with their vectors lie in the reference's tables -/
def rv_ok (p n : Nat) (V1 V2 : Nat → Nat → Nat) (tb : Nat → Nat) (I : Nat → Nat → Int32) (J : Nat → Nat → Int64) : Prop := (∀ t j, t < n → j < p → (J 15 (8 * t + j) = lN (V1 t j) ∧ V1 t j < an_P1) ∧ (J 16 (8 * t + j) = lN (V2 t j) ∧ V2 t j < an_P2)) ∧ fd_t tb I ∧ fd_ok n tb (fun t => fd_y (fd_hs (V1 t) (V2 t) p)) ∧ ∀ t u, t < n → u < n → rv_e p (V1 t) (V2 t) (V1 u) (V2 u) → t = u
section RV1
variable {d p n : Nat} {I : Nat → Nat → Int32} {J : Nat → Nat → Int64} {V1 V2 : Nat → Nat → Nat} {W1 W2 : Nat → Nat} {tb : Nat → Nat}
theorem rv_h (hv : rv_ok p n V1 V2 tb I J) (hw : ∀ j, j < p → (J 17 j = lN (W1 j) ∧ W1 j < an_P1) ∧ (J 18 j = lN (W2 j) ∧ W2 j < an_P2)) {t : Nat} (ht : t < n) : fd_h p J t ↔ rv_e p (V1 t) (V2 t) W1 W2 := by
  have b1 : an_P1 = 2147478481 := rfl
  have b2 : an_P2 = 2147463361 := rfl
  have key : ∀ j, j < p → ((J 15 (8 * t + j) = J 17 j ∧ J 16 (8 * t + j) = J 18 j) ↔ (V1 t j = W1 j ∧ V2 t j = W2 j)) := fun j hj => by
    obtain ⟨⟨a1, a2⟩, a3, a4⟩ := hv.1 t j ht hj
    obtain ⟨⟨c1, c2⟩, c3, c4⟩ := hw j hj
    rw [a1, a3, c1, c3, pk_lEQ (a := V1 t j) (b := W1 j) (by omega) (by omega), pk_lEQ (a := V2 t j) (b := W2 j) (by omega) (by omega)]
  exact ⟨fun z j hj => (key j hj).mp (z j hj), fun z j hj => (key j hj).mpr (z j hj)⟩
/-- the reference seeks the vector it holds -/
theorem rs_seek (hp : p ≤ 8) (hn : n ≤ 2000) (h1 : I 0 1 = nI p) (hv : rv_ok p n V1 V2 tb I J) (hw : ∀ j, j < p → (J 17 j = lN (W1 j) ∧ W1 j < an_P1) ∧ (J 18 j = lN (W2 j) ∧ W2 j < an_P2)) : (∀ t, t < n → rv_e p (V1 t) (V2 t) W1 W2 → rk_call (d + 2) 26 [.ref 0] (rk_R, I, J) (some (.int (nI t))) (rk_R, I, J)) ∧ ((∀ t, t < n → ¬ rv_e p (V1 t) (V2 t) W1 W2) → ∃ k, rk_call (d + 2) 26 [.ref 0] (rk_R, I, J) (some (.int (-1 - nI ((fd_y (fd_hs W1 W2 p) + k) % 8192)))) (rk_R, I, J) ∧ tb ((fd_y (fd_hs W1 W2 p) + k) % 8192) = 0 ∧ ∀ i, i < k → tb ((fd_y (fd_hs W1 W2 p) + i) % 8192) ≠ 0) := by
  have es : fd_s J p = fd_hs W1 W2 p := fd_hs_s (fun j hj => ⟨(hw j hj).1.1, (hw j hj).2.1⟩)
  obtain ⟨v1, v2, v3, v4⟩ := hv
  have hh := fun (t : Nat) (ht : t < n) => rv_h ⟨v1, v2, v3, v4⟩ hw ht
  refine ⟨fun t ht he => ?_, fun hno => ?_⟩
  · obtain ⟨k, k1, k2⟩ := fd_look1 (E := fd_h p J) (h := fd_y (fd_s J p)) v3 (fun t ht hE => by
      show fd_y (fd_hs (V1 t) (V2 t) p) = fd_y (fd_s J p)
      rw [es, fd_hs_c ((hh t ht).mp hE)]) (fun t u ht hu hE hE' => v4 t u ht hu (fun j hj => by
      have x := (hh t ht).mp hE j hj
      have y := (hh u hu).mp hE' j hj
      exact ⟨x.1.trans y.1.symm, x.2.trans y.2.symm⟩)) ht ((hh t ht).mpr he)
    have q := (rs_found (d := d) (k := k) hp h1 v2 k2).2
    rw [k1] at q
    exact q (by omega) ((hh t ht).mpr he)
  · obtain ⟨k, k1, k2⟩ := fd_look0 (E := fd_h p J) hn v3 (fun t ht hE => hno t ht ((hh t ht).mp hE)) (fd_y (fd_s J p))
    have q := (rs_found (d := d) (k := k) hp h1 v2 k2).1 k1
    rw [es] at q k1 k2
    exact ⟨k, q, k1, fun i hi => (k2 i hi).1⟩
end RV1
