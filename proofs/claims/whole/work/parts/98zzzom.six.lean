/-! ===== six, seven and eight sides: all boards ===== -/
theorem W_of {p : Nat} {cs : Nat → Nat} (hm : ∃ F : Nat → List Nat, (∀ i, i < 2001 → ∃ q, wd_t p cs (F i) = some q ∧ (F i).length ≤ 5) ∧ ∀ i j, i < 2001 → j < 2001 → F i = F j → i = j) (hV : VN p cs) (hI : INJ p cs) : wd_W p cs 5 :=
  ⟨hm, fun w w' q q' h h' l l' e => hI w w' q q' h h' l l' (hV w w' (wd_let w q h) (wd_let w' q' h') e)⟩
theorem HN_7 (hck : ∀ x, x < 6561 → atc 5 (9 * x) at5c = true) {cs : Nat → Nat} (hcs : ∀ j, j < 7 → cs j < 10 ∧ cs j ≠ 1) : HN 7 cs :=
  HN_W (by decide) hcs (W_of (many_7 (by decide) hcs) (VN_7 hcs) (INJ_7 hck hcs))
theorem all2_6 : att 6 (cdr (fun j => lbi ((fun _ => 2) j)) 6) [(lm1, 6, 15), (lm2, 6, 15)] = true := by decide +kernel
theorem all2_8 : att 8 (cdr (fun j => lbi ((fun _ => 2) j)) 8) [(lm1, 5, 15), (lm2, 5, 15)] = true := by decide +kernel
theorem HN_8 (hck : ∀ x, x < 6561 → atc 5 (9 * x) at5c = true) {cs : Nat → Nat} (hcs : ∀ j, j < 8 → cs j < 10 ∧ cs j ≠ 1) : HN 8 cs := by
  by_cases c : ∀ j, j < 8 → cs j = 2
  · refine HN_congr (cs' := fun _ => 2) (by decide) (fun j hj => (c j hj).symm) (att_HN (by decide) (by decide) (fun _ _ => by decide) [(lm1, 5, 15), (lm2, 5, 15)] (fun a ha => ?_) all2_8)
    rcases List.mem_cons.mp ha with e | ha
    · rw [e]; decide
    · rcases List.mem_cons.mp ha with e | ha
      · rw [e]; decide
      · exact absurd ha List.not_mem_nil
  · exact HN_W (by decide) hcs (W_of (many_7 (by decide) hcs) (VN_8 hcs c) (INJ_8 hck hcs))
/-- which labels are 2, as a number -/
def tw (cs : Nat → Nat) : Nat → Nat
  | 0 => 0
  | k + 1 => tw cs k + (if cs k = 2 then 2 ^ k else 0)
theorem tw_lt (cs : Nat → Nat) : ∀ k, tw cs k < 2 ^ k := by
  intro k
  induction k with
  | zero => exact Nat.one_pos
  | succ k ih =>
    show tw cs k + (if cs k = 2 then 2 ^ k else 0) < 2 ^ (k + 1)
    rw [Nat.pow_succ]
    by_cases c : cs k = 2
    · rw [if_pos c]; omega
    · rw [if_neg c]; omega
theorem tw_bit (cs : Nat → Nat) : ∀ k j, (tw cs k).testBit j = (decide (j < k) && decide (cs j = 2)) := by
  intro k
  induction k with
  | zero => intro j; show (0 : Nat).testBit j = _; rw [Nat.zero_testBit, decide_eq_false (Nat.not_lt_zero j), Bool.false_and]
  | succ k ih =>
    intro j
    show (tw cs k + (if cs k = 2 then 2 ^ k else 0)).testBit j = _
    have e : tw cs k + (if cs k = 2 then 2 ^ k else 0) = 2 ^ k * (if cs k = 2 then 1 else 0) + tw cs k := by
      by_cases c : cs k = 2
      · rw [if_pos c, if_pos c]; omega
      · rw [if_neg c, if_neg c]; omega
    rw [e, Nat.testBit_two_pow_mul_add _ (tw_lt cs k)]
    by_cases c : j < k
    · rw [if_pos c, ih, decide_eq_true c, decide_eq_true (show j < k + 1 by omega)]
    · rw [if_neg c]
      by_cases c2 : j = k
      · subst c2
        rw [Nat.sub_self, decide_eq_true (Nat.lt_succ_self j), Bool.true_and]
        by_cases c3 : cs j = 2
        · rw [if_pos c3, decide_eq_true c3]; rfl
        · rw [if_neg c3, decide_eq_false c3]; rfl
      · rw [decide_eq_false (show ¬ j < k + 1 by omega), Bool.false_and]
        obtain ⟨d, ed⟩ : ∃ d, j - k = d + 1 := ⟨j - k - 1, by omega⟩
        rw [ed]
        by_cases c3 : cs k = 2
        · rw [if_pos c3]; exact Nat.testBit_lt_two_pow (Nat.one_lt_two_pow (by omega))
        · rw [if_neg c3]; exact Nat.zero_testBit _
theorem sf_b_bit (c y : Nat) : sf_b c y = c.testBit y := by
  unfold sf_b
  show Nat.beq ((c >>> y) % 2) 1 = _
  have h1 : (c.testBit y) = decide ((c >>> y) % 2 = 1) := by
    rw [Nat.testBit_eq_decide_div_mod_eq, Nat.shiftRight_eq_div_pow]
  rw [h1]
  by_cases d : (c >>> y) % 2 = 1
  · rw [decide_eq_true d]; exact beq_t d
  · rw [decide_eq_false d]; exact Bool.eq_false_iff.mpr (fun z => d (Nat.eq_of_beq_eq_true z))
theorem HN_6 (hck : ∀ x, x < 6561 → atc 5 (9 * x) at5c = true) {cs : Nat → Nat} (hcs : ∀ j, j < 6 → cs j < 10 ∧ cs j ≠ 1) : HN 6 cs := by
  by_cases c : ∀ j, j < 6 → cs j = 2
  · refine HN_congr (cs' := fun _ => 2) (by decide) (fun j hj => (c j hj).symm) (att_HN (by decide) (by decide) (fun _ _ => by decide) [(lm1, 6, 15), (lm2, 6, 15)] (fun a ha => ?_) all2_6)
    rcases List.mem_cons.mp ha with e | ha
    · rw [e]; decide
    · rcases List.mem_cons.mp ha with e | ha
      · rw [e]; decide
      · exact absurd ha List.not_mem_nil
  · have l63 : tw cs 6 < 63 := by
      have l := tw_lt cs 6
      by_cases e : tw cs 6 = 63
      · exfalso
        apply c
        intro j hj
        have b := tw_bit cs 6 j
        rw [e, decide_eq_true hj, Bool.true_and] at b
        have : (63 : Nat).testBit j = true := by
          have : j = 0 ∨ j = 1 ∨ j = 2 ∨ j = 3 ∨ j = 4 ∨ j = 5 := by omega
          rcases this with e | e | e | e | e | e <;> subst e <;> rfl
        rw [this] at b
        exact of_decide_eq_true b.symm
      · have : (2 : Nat) ^ 6 = 64 := by decide
        omega
    have n := sf_6 (tw cs 6) l63
    refine HN_W (by decide) hcs (W_of (sf_many (b := sf_b (tw cs 6)) (by decide) hcs (fun j hj => ?_) n) (VN_6 hcs c) (INJ_6 hck hcs))
    rw [sf_b_bit, tw_bit, decide_eq_true hj, Bool.true_and, decide_eq_true_iff]
