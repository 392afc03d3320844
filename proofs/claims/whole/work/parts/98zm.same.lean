/-! ===== laying a board: both number the classes of sides alike ===== -/
section KS1
variable {p : Nat} {o o' : Nat → Bool}
theorem kl_fw_c (hp : 0 < p) (h : ∀ i, i < p → o i = o' i) (i c : Nat) : ∀ (r z : Nat) (f : Nat → Nat), kl_fw p o i c r z f = kl_fw p o' i c r z f := by
  intro r
  induction r with
  | zero => intro z f; rfl
  | succ r ih =>
    intro z f
    show (if o ((i + z - 1) % p) = true then kl_fw p o i c r (z + 1) (kl_u f ((i + z) % p) c) else f) = (if o' ((i + z - 1) % p) = true then kl_fw p o' i c r (z + 1) (kl_u f ((i + z) % p) c) else f)
    rw [h _ (Nat.mod_lt _ hp), ih]
theorem kl_bw_c (hp : 0 < p) (h : ∀ i, i < p → o i = o' i) (i c : Nat) : ∀ (r z : Nat) (f : Nat → Nat), kl_bw p o i c r z f = kl_bw p o' i c r z f := by
  intro r
  induction r with
  | zero => intro z f; rfl
  | succ r ih =>
    intro z f
    show (if o ((i + p - z) % p) = true then kl_bw p o i c r (z + 1) (kl_u f ((i + p - z) % p) c) else f) = (if o' ((i + p - z) % p) = true then kl_bw p o' i c r (z + 1) (kl_u f ((i + p - z) % p) c) else f)
    rw [h _ (Nat.mod_lt _ hp), ih]
theorem kl_go_c (hp : 0 < p) (h : ∀ i, i < p → o i = o' i) : ∀ (r i c : Nat) (f : Nat → Nat), kl_go p o r i c f = kl_go p o' r i c f := by
  intro r
  induction r with
  | zero => intro i c f; rfl
  | succ r ih =>
    intro i c f
    show (if f i = 9 then kl_go p o r (i + 1) (c + 1) (kl_bw p o i c (p - 1) 1 (kl_fw p o i c (p - 1) 1 (kl_u f i c))) else kl_go p o r (i + 1) c f) = (if f i = 9 then kl_go p o' r (i + 1) (c + 1) (kl_bw p o' i c (p - 1) 1 (kl_fw p o' i c (p - 1) 1 (kl_u f i c))) else kl_go p o' r (i + 1) c f)
    rw [kl_fw_c hp h, kl_bw_c hp h, ih, ih]
theorem kl_x_c (h : ∀ i, i < p → o i = o' i) : ∀ s, s ≤ p → kl_x o s = kl_x o' s := by
  intro s
  induction s with
  | zero => intro _; rfl
  | succ s ih =>
    intro hs
    by_cases e : s = 0 ∨ o (s - 1) = false
    · rw [kl_x_a e, kl_x_a (o := o') (by rw [← h (s - 1) (by omega)]; exact e), ih (by omega)]
    · rw [kl_x_b e, kl_x_b (o := o') (by rw [← h (s - 1) (by omega)]; exact e), ih (by omega)]
theorem kl_y_c (hp : 0 < p) (h : ∀ i, i < p → o i = o' i) : kl_y p o = kl_y p o' := by
  unfold kl_y
  rw [kl_x_c h p (Nat.le_refl p), h (p - 1) (by omega)]
/-- the classes of sides are the same -/
theorem kl_same (hp3 : 3 ≤ p) (hp8 : p ≤ 8) (o : Nat → Bool) : (kl_go p o p 0 0 (fun _ => 9)).2 = (kl_y p o).2 ∧ (kl_y p o).2 ≤ p ∧ ∀ x, x < p → (kl_go p o p 0 0 (fun _ => 9)).1 x = (kl_y p o).1 x ∧ (kl_y p o).1 x < (kl_y p o).2 := by
  obtain ⟨B, h1, h2⟩ := kl_bits o p
  have hB : B < 256 := Nat.lt_of_lt_of_le h1 (Nat.pow_le_pow_right (by decide) hp8 : 2 ^ p ≤ 2 ^ 8)
  have k := kl_oks ⟨p, by omega⟩ hp3 ⟨B, hB⟩
  rw [← kl_go_c (o := fun i => B.testBit i) (by omega) h2, ← kl_y_c (o := fun i => B.testBit i) (by omega) h2]
  unfold kl_ok at k
  rw [Bool.and_eq_true, Bool.and_eq_true, beq_iff_eq, List.all_eq_true] at k
  refine ⟨k.1, Nat.le_of_ble_eq_true k.2.1, fun x hx => ?_⟩
  have z := k.2.2 x (List.mem_range.mpr hx)
  rw [Bool.and_eq_true, beq_iff_eq] at z
  exact ⟨z.1, Nat.le_of_ble_eq_true z.2⟩
end KS1
