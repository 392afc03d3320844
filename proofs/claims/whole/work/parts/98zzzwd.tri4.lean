/-! ===== all boards of three sides (4) ===== -/
theorem tk : ∀ j, j < 9 → ∀ k, k < 27 → b3 (27 * j + k) = true := fun j hj => match j with
  | 0 => tkg_0
  | 1 => tkg_1
  | 2 => tkg_2
  | 3 => tkg_3
  | 4 => tkg_4
  | 5 => tkg_5
  | 6 => tkg_6
  | 7 => tkg_7
  | 8 => tkg_8
  | n + 9 => absurd hj (by omega)
theorem lb_congr {f g : Nat → Nat} : ∀ n, (∀ j, j < n → f j = g j) → lb_sum f n = lb_sum g n := by
  intro n
  induction n with
  | zero => intro _; rfl
  | succ n ih =>
    intro h
    show lb_sum f n + (if f n = 0 then 0 else 2520 / f n) = lb_sum g n + (if g n = 0 then 0 else 2520 / g n)
    rw [ih (fun j hj => h j (by omega)), h n (Nat.lt_succ_self n)]
theorem pg_3 {cs : Nat → Nat} (hcs : ∀ j, j < 3 → cs j < 10 ∧ cs j ≠ 1) (hsum : lb_sum cs 3 < 2520 * (3 - 2)) : ∃ Q, pg_ok 3 cs Q := by
  have d9 : ∀ j, j < 3 → lbi (cs j) < 9 := fun j hj => (lbl_lbi (hcs j hj)).2
  have hx : cdr (fun j => lbi (cs j)) 3 < 729 := cdr_lt 3 d9
  obtain ⟨g1, _⟩ := lbs_get hcs
  generalize cdr (fun j => lbi (cs j)) 3 = x at hx g1
  have b := tk (x / 3 / 27) (by omega) (x / 3 % 27) (by omega)
  rw [show 27 * (x / 3 / 27) + x / 3 % 27 = x / 3 by omega] at b
  have b' : allB (fun k => c3 (Nat.add (Nat.mul 3 (x / 3)) k)) 3 = true := b
  have c := allB_t b' (x % 3) (by omega)
  have c' : c3 (3 * (x / 3) + x % 3) = true := c
  rw [show 3 * (x / 3) + x % 3 = x by omega] at c'
  rcases Bool.or_eq_true_iff.mp c' with c | c
  · have c2 := Nat.le_of_ble_eq_true c
    rw [lb_congr (g := cs) 3 g1] at c2
    exact absurd hsum (by omega)
  · exact ck9_pg hcs g1 c
