/-! ===== six sides or more (3): all pairs of arcs at once ===== -/
/-- the numbers of the right arc, and what the left one weighs them with -/
def fr (y : List Nat) : List Nat := [1, zm 1 (y.getD 0 0), zm 1 (y.getD 1 0), zm 1 (y.getD 2 0), zm 1 (y.getD 3 0), zm 1 (y.getD 4 0), zm 1 (y.getD 5 0), zs (zm (y.getD 1 0) (y.getD 2 0)) (zm (y.getD 5 0) (y.getD 5 0)), zs (zm (y.getD 0 0) (y.getD 2 0)) (zm (y.getD 4 0) (y.getD 4 0)), zs (zm (y.getD 0 0) (y.getD 1 0)) (zm (y.getD 3 0) (y.getD 3 0)), zs (zm (y.getD 4 0) (y.getD 5 0)) (zm (y.getD 3 0) (y.getD 2 0)), zs (zm (y.getD 3 0) (y.getD 5 0)) (zm (y.getD 4 0) (y.getD 1 0)), zs (zm (y.getD 3 0) (y.getD 4 0)) (zm (y.getD 0 0) (y.getD 5 0)), za (zs (zm (y.getD 0 0) (zs (zm (y.getD 1 0) (y.getD 2 0)) (zm (y.getD 5 0) (y.getD 5 0)))) (zm (y.getD 3 0) (zs (zm (y.getD 3 0) (y.getD 2 0)) (zm (y.getD 5 0) (y.getD 4 0))))) (zm (y.getD 4 0) (zs (zm (y.getD 3 0) (y.getD 5 0)) (zm (y.getD 1 0) (y.getD 4 0))))]
def wl (y : List Nat) : List Nat := [za (zs (zm (y.getD 0 0) (zs (zm (y.getD 1 0) (y.getD 2 0)) (zm (y.getD 5 0) (y.getD 5 0)))) (zm (y.getD 3 0) (zs (zm (y.getD 3 0) (y.getD 2 0)) (zm (y.getD 5 0) (y.getD 4 0))))) (zm (y.getD 4 0) (zs (zm (y.getD 3 0) (y.getD 5 0)) (zm (y.getD 1 0) (y.getD 4 0)))), zs (zm (y.getD 1 0) (y.getD 2 0)) (zm (y.getD 5 0) (y.getD 5 0)), zs (zm (y.getD 0 0) (y.getD 2 0)) (zm (y.getD 4 0) (y.getD 4 0)), zs (zm (y.getD 0 0) (y.getD 1 0)) (zm (y.getD 3 0) (y.getD 3 0)), zm 2 (zs (zm (y.getD 4 0) (y.getD 5 0)) (zm (y.getD 3 0) (y.getD 2 0))), zm 2 (zs (zm (y.getD 3 0) (y.getD 5 0)) (zm (y.getD 4 0) (y.getD 1 0))), zm 2 (zs (zm (y.getD 3 0) (y.getD 4 0)) (zm (y.getD 0 0) (y.getD 5 0))), zm 1 (y.getD 0 0), zm 1 (y.getD 1 0), zm 1 (y.getD 2 0), zm 2 (y.getD 3 0), zm 2 (y.getD 4 0), zm 2 (y.getD 5 0), 1]
def xa (y : List Nat) : List Nat := [za 4 (y.getD 0 0), za 4 (y.getD 1 0), za 2 (y.getD 2 0), y.getD 3 0, zs (y.getD 4 0) 2, zs (y.getD 5 0) 2]
theorem getD_lt' {N : Nat} (hN : 0 < N) : ∀ (l : List Nat), (∀ a, a ∈ l → a < N) → ∀ j, l.getD j 0 < N := by
  intro l
  induction l with
  | nil => intro _ j; rw [List.getD_nil]; exact hN
  | cons x l ih =>
    intro h j
    cases j with
    | zero => exact h x List.mem_cons_self
    | succ j => exact ih (fun a ha => h a (List.mem_cons_of_mem _ ha)) j
theorem fr_lt (y : List Nat) (j : Nat) : (fr y).getD j 0 < 2147478481 := by
  refine getD_lt' (by decide) _ (fun a ha => ?_) j
  simp only [fr, List.mem_cons, List.not_mem_nil, or_false] at ha
  rcases ha with h | h | h | h | h | h | h | h | h | h | h | h | h | h
  all_goals (rw [h]; first | exact rz_lt_s _ _ | exact rz_lt_m _ _ | exact rz_lt_a _ _ | decide)
theorem wl_lt (y : List Nat) (j : Nat) : (wl y).getD j 0 < 2147478481 := by
  refine getD_lt' (by decide) _ (fun a ha => ?_) j
  simp only [wl, List.mem_cons, List.not_mem_nil, or_false] at ha
  rcases ha with h | h | h | h | h | h | h | h | h | h | h | h | h | h
  all_goals (rw [h]; first | exact rz_lt_s _ _ | exact rz_lt_m _ _ | exact rz_lt_a _ _ | decide)
def psu (x y : List Nat) : Nat := ssum (fun j => (wl x).getD j 0 * (fr y).getD j 0) (List.range 14)
theorem psu_lt (x y : List Nat) : psu x y < 2 ^ 67 := by
  unfold psu
  rw [ssum_range]
  have h := sm_bound (n := 14) (f := fun j => (wl x).getD j 0 * (fr y).getD j 0) (B := 2147478480 * 2147478480) (fun j _ => Nat.mul_le_mul (by have := wl_lt x j; omega) (by have := fr_lt y j; omega))
  exact Nat.lt_of_le_of_lt h (by decide)
theorem l14 (a0 a1 a2 a3 a4 a5 a6 a7 a8 a9 a10 a11 a12 a13 : Nat) : [a0, a1, a2, a3, a4, a5, a6, a7, a8, a9, a10, a11, a12, a13] = (List.range 14).map (fun j => [a0, a1, a2, a3, a4, a5, a6, a7, a8, a9, a10, a11, a12, a13].getD j 0) := rfl
theorem s14 (a0 a1 a2 a3 a4 a5 a6 a7 a8 a9 a10 a11 a12 a13 b0 b1 b2 b3 b4 b5 b6 b7 b8 b9 b10 b11 b12 b13 : Nat) : ssum (fun j => [a0, a1, a2, a3, a4, a5, a6, a7, a8, a9, a10, a11, a12, a13].getD j 0 * [b0, b1, b2, b3, b4, b5, b6, b7, b8, b9, b10, b11, b12, b13].getD j 0) (List.range 14) = (a0 * b0 + (a1 * b1 + (a2 * b2 + (a3 * b3 + (a4 * b4 + (a5 * b5 + (a6 * b6 + (a7 * b7 + (a8 * b8 + (a9 * b9 + (a10 * b10 + (a11 * b11 + (a12 * b12 + (a13 * b13 + 0)))))))))))))) := rfl
theorem rz_p {a b s : Nat} {A B T : Int} (h : rz a A) (h' : rz b B) (h2 : rz s T) : rz (a * b + s) (A * B + T) := by
  have e : ((a * b + s : Nat) : Int) = (a : Int) * b + s := by rw [Int.natCast_add, Int.natCast_mul]
  show cg _ ((a * b + s : Nat) : Int) _
  rw [e]
  exact cg_add (cg_mul2 h h') h2
theorem rz_14 {a0 a1 a2 a3 a4 a5 a6 a7 a8 a9 a10 a11 a12 a13 b0 b1 b2 b3 b4 b5 b6 b7 b8 b9 b10 b11 b12 b13 : Nat} {A0 A1 A2 A3 A4 A5 A6 A7 A8 A9 A10 A11 A12 A13 B0 B1 B2 B3 B4 B5 B6 B7 B8 B9 B10 B11 B12 B13 : Int} (h0 : rz a0 A0) (h1 : rz a1 A1) (h2 : rz a2 A2) (h3 : rz a3 A3) (h4 : rz a4 A4) (h5 : rz a5 A5) (h6 : rz a6 A6) (h7 : rz a7 A7) (h8 : rz a8 A8) (h9 : rz a9 A9) (h10 : rz a10 A10) (h11 : rz a11 A11) (h12 : rz a12 A12) (h13 : rz a13 A13) (g0 : rz b0 B0) (g1 : rz b1 B1) (g2 : rz b2 B2) (g3 : rz b3 B3) (g4 : rz b4 B4) (g5 : rz b5 B5) (g6 : rz b6 B6) (g7 : rz b7 B7) (g8 : rz b8 B8) (g9 : rz b9 B9) (g10 : rz b10 B10) (g11 : rz b11 B11) (g12 : rz b12 B12) (g13 : rz b13 B13) : rz (ssum (fun j => [a0, a1, a2, a3, a4, a5, a6, a7, a8, a9, a10, a11, a12, a13].getD j 0 * [b0, b1, b2, b3, b4, b5, b6, b7, b8, b9, b10, b11, b12, b13].getD j 0) (List.range 14)) (A0 * B0 + (A1 * B1 + (A2 * B2 + (A3 * B3 + (A4 * B4 + (A5 * B5 + (A6 * B6 + (A7 * B7 + (A8 * B8 + (A9 * B9 + (A10 * B10 + (A11 * B11 + (A12 * B12 + (A13 * B13 + 0)))))))))))))) := by
  rw [s14]
  exact (rz_p h0 g0 (rz_p h1 g1 (rz_p h2 g2 (rz_p h3 g3 (rz_p h4 g4 (rz_p h5 g5 (rz_p h6 g6 (rz_p h7 g7 (rz_p h8 g8 (rz_p h9 g9 (rz_p h10 g10 (rz_p h11 g11 (rz_p h12 g12 (rz_p h13 g13 (cg_refl _ _)))))))))))))))
theorem rz_k1 : rz 1 (1 : Int) := ⟨0, by decide⟩
/-- the sum is the determinant of both arcs -/
theorem psu_dt (x y : List Nat) {z : Nat → Int} (hz : ∀ i, i < 6 → z i = zI x i + zI y i) : rz (psu x y) (dt3 z) := by
  have q := dt3_add (zI x) (zI y) z (hz 0 (by decide)) (hz 1 (by decide)) (hz 2 (by decide)) (hz 3 (by decide)) (hz 4 (by decide)) (hz 5 (by decide))
  rw [q]
  unfold psu fr wl
  unfold dt3
  unfold zI
  generalize x.getD 0 0 = x0
  generalize x.getD 1 0 = x1
  generalize x.getD 2 0 = x2
  generalize x.getD 3 0 = x3
  generalize x.getD 4 0 = x4
  generalize x.getD 5 0 = x5
  generalize y.getD 0 0 = y0
  generalize y.getD 1 0 = y1
  generalize y.getD 2 0 = y2
  generalize y.getD 3 0 = y3
  generalize y.getD 4 0 = y4
  generalize y.getD 5 0 = y5
  have k := fun n => rz_k n
  have dx := rz_a (rz_s (rz_m (k x0) (rz_s (rz_m (k x1) (k x2)) (rz_m (k x5) (k x5)))) (rz_m (k x3) (rz_s (rz_m (k x3) (k x2)) (rz_m (k x5) (k x4))))) (rz_m (k x4) (rz_s (rz_m (k x3) (k x5)) (rz_m (k x1) (k x4))))
  have dy := rz_a (rz_s (rz_m (k y0) (rz_s (rz_m (k y1) (k y2)) (rz_m (k y5) (k y5)))) (rz_m (k y3) (rz_s (rz_m (k y3) (k y2)) (rz_m (k y5) (k y4))))) (rz_m (k y4) (rz_s (rz_m (k y3) (k y5)) (rz_m (k y1) (k y4))))
  have r := rz_14 dx (rz_s (rz_m (k x1) (k x2)) (rz_m (k x5) (k x5))) (rz_s (rz_m (k x0) (k x2)) (rz_m (k x4) (k x4))) (rz_s (rz_m (k x0) (k x1)) (rz_m (k x3) (k x3))) (rz_m rz_k2 (rz_s (rz_m (k x4) (k x5)) (rz_m (k x3) (k x2)))) (rz_m rz_k2 (rz_s (rz_m (k x3) (k x5)) (rz_m (k x4) (k x1)))) (rz_m rz_k2 (rz_s (rz_m (k x3) (k x4)) (rz_m (k x0) (k x5)))) (rz_m rz_k1 (k x0)) (rz_m rz_k1 (k x1)) (rz_m rz_k1 (k x2)) (rz_m rz_k2 (k x3)) (rz_m rz_k2 (k x4)) (rz_m rz_k2 (k x5)) rz_k1 rz_k1 (rz_m rz_k1 (k y0)) (rz_m rz_k1 (k y1)) (rz_m rz_k1 (k y2)) (rz_m rz_k1 (k y3)) (rz_m rz_k1 (k y4)) (rz_m rz_k1 (k y5)) (rz_s (rz_m (k y1) (k y2)) (rz_m (k y5) (k y5))) (rz_s (rz_m (k y0) (k y2)) (rz_m (k y4) (k y4))) (rz_s (rz_m (k y0) (k y1)) (rz_m (k y3) (k y3))) (rz_s (rz_m (k y4) (k y5)) (rz_m (k y3) (k y2))) (rz_s (rz_m (k y3) (k y5)) (rz_m (k y4) (k y1))) (rz_s (rz_m (k y3) (k y4)) (rz_m (k y0) (k y5))) dy
  refine cg_trans r ⟨0, ?_⟩
  clear r dx dy k q hz
  generalize (x0 : Int) = X0
  generalize (x1 : Int) = X1
  generalize (x2 : Int) = X2
  generalize (x3 : Int) = X3
  generalize (x4 : Int) = X4
  generalize (x5 : Int) = X5
  generalize (y0 : Int) = Y0
  generalize (y1 : Int) = Y1
  generalize (y2 : Int) = Y2
  generalize (y3 : Int) = Y3
  generalize (y4 : Int) = Y4
  generalize (y5 : Int) = Y5
  grind
