/-! ===== all boards ===== -/
theorem ex4_0 : ck3 4 [3, 2, 2, 2] = true := by decide +kernel
theorem ex4_1 : ck3 4 [2, 3, 2, 2] = true := by decide +kernel
theorem ex4_2 : ck3 4 [2, 2, 3, 2] = true := by decide +kernel
theorem ex4_3 : ck3 4 [2, 2, 2, 3] = true := by decide +kernel
theorem pg_4x {cs : Nat → Nat} (hcs : ∀ j, j < 4 → cs j < 10 ∧ cs j ≠ 1) (hsum : lb_sum cs 4 < 2520 * (4 - 2)) (hx : ex4 (cdr (fun j => lbi (cs j)) 4)) : ∃ Q, pg_ok 4 cs Q := by
  obtain ⟨i, h⟩ := hx
  have d9 : ∀ j, j < 4 → lbi (cs j) < 9 := fun j hj => (lbl_lbi (hcs j hj)).2
  have e : ∀ j, j < 4 → cs j = if j = i then 3 else 2 := fun j hj => by
    have q := h j hj
    rw [dgt_cdr 4 d9 j hj] at q
    have l := (lbl_lbi (hcs j hj)).1
    rw [q] at l
    by_cases c : j = i
    · rw [if_pos c] at l ⊢; exact l.symm
    · rw [if_neg c] at l ⊢; exact l.symm
  have four : ∀ {cl : List Nat}, ck3 4 cl = true → cs 0 = cl.getD 0 0 → cs 1 = cl.getD 1 0 → cs 2 = cl.getD 2 0 → cs 3 = cl.getD 3 0 → ∃ Q, pg_ok 4 cs Q := fun {cl} hk a0 a1 a2 a3 => ck3_pg (by decide) (by decide) hcs (fun y hy => by
    have : y = 0 ∨ y = 1 ∨ y = 2 ∨ y = 3 := by omega
    rcases this with c | c | c | c <;> subst c
    · exact a0.symm
    · exact a1.symm
    · exact a2.symm
    · exact a3.symm) hk
  have e0 := e 0 (by decide)
  have e1 := e 1 (by decide)
  have e2 := e 2 (by decide)
  have e3 := e 3 (by decide)
  by_cases c : i < 4
  · have : i = 0 ∨ i = 1 ∨ i = 2 ∨ i = 3 := by omega
    rcases this with c | c | c | c <;> subst c
    · exact four ex4_0 e0 e1 e2 e3
    · exact four ex4_1 e0 e1 e2 e3
    · exact four ex4_2 e0 e1 e2 e3
    · exact four ex4_3 e0 e1 e2 e3
  · exfalso
    rw [if_neg (by omega)] at e0 e1 e2 e3
    have s : lb_sum cs 4 = 0 + (if cs 0 = 0 then 0 else 2520 / cs 0) + (if cs 1 = 0 then 0 else 2520 / cs 1) + (if cs 2 = 0 then 0 else 2520 / cs 2) + (if cs 3 = 0 then 0 else 2520 / cs 3) := rfl
    rw [s, e0, e1, e2, e3] at hsum
    exact absurd hsum (by decide)
theorem pg_all_holds : pg_all := by
  intro p cs hp3 hp8 hcs hsum
  have : p = 3 ∨ p = 4 ∨ p = 5 ∨ p = 6 ∨ p = 7 ∨ p = 8 := by omega
  rcases this with e | e | e | e | e | e <;> subst e
  · exact pg_3 hcs hsum
  · by_cases hx : ex4 (cdr (fun j => lbi (cs j)) 4)
    · exact pg_4x hcs hsum hx
    · exact HN_pg (by decide) hcs (HN_4 hcs hx)
  · exact HN_pg (by decide) hcs (HN_5 hcs)
  · exact HN_pg (by decide) hcs (HN_6 cp5_all hcs)
  · exact HN_pg (by decide) hcs (HN_7 cp5_all hcs)
  · exact HN_pg (by decide) hcs (HN_8 cp5_all hcs)
theorem whole_run (L : Nat) (xs : Nat → Int32) (hL : L ≤ 3072) : lk_run L xs := wr_run pg_all_holds L xs hL
