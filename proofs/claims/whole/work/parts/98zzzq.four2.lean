/-! ===== all boards of four sides (2) ===== -/
/-- four corners of 2, or three of 2 and one of 3 -/
def ex4 (x : Nat) : Prop := ∃ i, ∀ j, j < 4 → dgt 4 x j = if j = i then 2 else 1
theorem d9 (p x j : Nat) : dgt p x j < 9 := Nat.mod_lt _ (by decide)
theorem ex4_r (x i : Nat) (h : ex4 (rtc 4 x i)) : ex4 x := by
  obtain ⟨i0, h⟩ := h
  have e : ∀ j, j < 4 → dgt 4 (rtc 4 x i) j = dgt 4 x ((j + i) % 4) := fun j hj => dgt_cdr 4 (fun _ _ => d9 _ _ _) j hj
  refine ⟨if i0 < 4 then (i0 + i) % 4 else 4, fun j hj => ?_⟩
  have q := h ((j + 4 - i % 4) % 4) (Nat.mod_lt _ (by decide))
  rw [e _ (Nat.mod_lt _ (by decide)), show ((j + 4 - i % 4) % 4 + i) % 4 = j by omega] at q
  rw [q]
  by_cases c : i0 < 4
  · rw [if_pos c]
    by_cases c2 : (j + 4 - i % 4) % 4 = i0
    · rw [if_pos c2, if_pos (by omega)]
    · rw [if_neg c2, if_neg (by omega)]
  · rw [if_neg c, if_neg (by omega), if_neg (by omega)]
theorem ex4_m (x i : Nat) (h : ex4 (mrc 4 x i)) : ex4 x := by
  obtain ⟨i0, h⟩ := h
  have e : ∀ j, j < 4 → dgt 4 (mrc 4 x i) j = dgt 4 x ((2 * 4 - 2 - (j + i) % 4) % 4) := fun j hj => dgt_cdr 4 (fun _ _ => d9 _ _ _) j hj
  refine ⟨if i0 < 4 then (2 * 4 - 2 - (i0 + i) % 4) % 4 else 4, fun j hj => ?_⟩
  have q := h ((6 - j + 4 - i % 4) % 4) (Nat.mod_lt _ (by decide))
  rw [e _ (Nat.mod_lt _ (by decide)), show (2 * 4 - 2 - ((6 - j + 4 - i % 4) % 4 + i) % 4) % 4 = j by omega] at q
  rw [q]
  by_cases c : i0 < 4
  · rw [if_pos c]
    by_cases c2 : (6 - j + 4 - i % 4) % 4 = i0
    · rw [if_pos c2, if_pos (by omega)]
    · rw [if_neg c2, if_neg (by omega)]
  · rw [if_neg c, if_neg (by omega), if_neg (by omega)]
theorem atk4 : atk 4 at4 := by
  unfold atk at4
  decide
theorem HN_4 {cs : Nat → Nat} (hcs : ∀ j, j < 4 → cs j < 10 ∧ cs j ≠ 1) (hx : ¬ ex4 (cdr (fun j => lbi (cs j)) 4)) : HN 4 cs := by
  refine HN_all (by decide) (by decide) atk4 (ex := ex4) ex4_r ex4_m (fun x hx hn => ?_) _ cs hcs (Nat.lt_succ_self _) hx
  have hx' : x < 6561 := hx
  have b := ck4 (x / 9 / 27) (by omega) (x / 9 % 27) (by omega)
  rw [show 27 * (x / 9 / 27) + x / 9 % 27 = x / 9 by omega] at b
  have c := allB_t b (x % 9) (by omega)
  have c' : ((Nat.beq (9 * (x / 9) + x % 9) 820 || Nat.beq (9 * (x / 9) + x % 9) 821) || ckb at4 4 (9 * (x / 9) + x % 9)) = true := c
  rw [show 9 * (x / 9) + x % 9 = x by omega] at c'
  rcases Bool.or_eq_true_iff.mp c' with c | c
  · exfalso
    apply hn
    rcases Bool.or_eq_true_iff.mp c with c | c
    · rw [Nat.eq_of_beq_eq_true c]
      refine ⟨4, fun j hj => ?_⟩
      have : j = 0 ∨ j = 1 ∨ j = 2 ∨ j = 3 := by omega
      rcases this with e | e | e | e <;> subst e <;> rfl
    · rw [Nat.eq_of_beq_eq_true c]
      refine ⟨3, fun j hj => ?_⟩
      have : j = 0 ∨ j = 1 ∨ j = 2 ∨ j = 3 := by omega
      rcases this with e | e | e | e <;> subst e <;> rfl
  · exact c
