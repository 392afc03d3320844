/-! ===== pieces of packed rows ===== -/
section PC1
variable {α : Type} {b : Nat}
/-- groups one behind another -/
def gcat (g : Nat → List α) : Nat → List α
  | 0 => []
  | p + 1 => gcat g p ++ g p
/-- all but group y -/
def gcut (g : Nat → List α) (y : Nat) : Nat → List α
  | 0 => []
  | p + 1 => if p = y then gcut g y p else gcut g y p ++ g p
theorem gcat_len {g : Nat → List α} {s : Nat} : ∀ (p : Nat), (∀ d, d < p → (g d).length = s) → (gcat g p).length = s * p := by
  intro p
  induction p with
  | zero => intro _; rfl
  | succ p ih => intro h; show (gcat g p ++ g p).length = _; rw [List.length_append, ih (fun d hd => h d (by omega)), h p (by omega), Nat.mul_succ]
theorem gcut_eq {g : Nat → List α} {y : Nat} : ∀ (p : Nat), p ≤ y → gcut g y p = gcat g p := by
  intro p
  induction p with
  | zero => intro _; rfl
  | succ p ih => intro h; show (if p = y then _ else gcut g y p ++ g p) = gcat g p ++ g p; rw [if_neg (by omega), ih (by omega)]
theorem gcut_len {g : Nat → List α} {s y : Nat} : ∀ (p : Nat), (∀ d, d < p → (g d).length = s) → y < p → (gcut g y p).length = s * (p - 1) := by
  intro p
  induction p with
  | zero => intro _ h; omega
  | succ p ih =>
    intro h hy
    show (if p = y then gcut g y p else gcut g y p ++ g p).length = _
    by_cases e : p = y
    · rw [if_pos e, gcut_eq p (by omega), gcat_len p (fun d hd => h d (by omega))]; rfl
    · rw [if_neg e, List.length_append, ih (fun d hd => h d (by omega)) (by omega), h p (by omega), show p + 1 - 1 = (p - 1) + 1 by omega, Nat.mul_succ]
theorem gcut_mem {g : Nat → List α} {y : Nat} {w : α} : ∀ (p : Nat), w ∈ gcut g y p ↔ ∃ d, d < p ∧ d ≠ y ∧ w ∈ g d := by
  intro p
  induction p with
  | zero =>
    constructor
    · intro h; exact absurd h List.not_mem_nil
    · intro ⟨d, h, _⟩; omega
  | succ p ih =>
    show w ∈ (if p = y then gcut g y p else gcut g y p ++ g p) ↔ _
    by_cases e : p = y
    · rw [if_pos e, ih]
      constructor
      · intro ⟨d, h1, h2, h3⟩; exact ⟨d, by omega, h2, h3⟩
      · intro ⟨d, h1, h2, h3⟩; exact ⟨d, by omega, h2, h3⟩
    · rw [if_neg e, List.mem_append, ih]
      constructor
      · intro h
        rcases h with ⟨d, h1, h2, h3⟩ | h
        · exact ⟨d, by omega, h2, h3⟩
        · exact ⟨p, by omega, e, h⟩
      · intro ⟨d, h1, h2, h3⟩
        by_cases c : d = p
        · rw [c] at h3; exact Or.inr h3
        · exact Or.inl ⟨d, by omega, h2, h3⟩
theorem gcat_mem {g : Nat → List α} {w : α} : ∀ (p : Nat), w ∈ gcat g p ↔ ∃ d, d < p ∧ w ∈ g d := by
  intro p
  induction p with
  | zero =>
    constructor
    · intro h; exact absurd h List.not_mem_nil
    · intro ⟨d, h, _⟩; omega
  | succ p ih =>
    show w ∈ gcat g p ++ g p ↔ _
    rw [List.mem_append, ih]
    constructor
    · intro h
      rcases h with ⟨d, h1, h2⟩ | h
      · exact ⟨d, by omega, h2⟩
      · exact ⟨p, by omega, h⟩
    · intro ⟨d, h1, h2⟩
      by_cases c : d = p
      · rw [c] at h2; exact Or.inr h2
      · exact Or.inl ⟨d, by omega, h2⟩
/-- what lies before group d, and behind it -/
theorem gcat_split {g : Nat → List α} {d : Nat} : ∀ (p : Nat), d < p → ∃ C, gcat g p = gcat g d ++ g d ++ C ∧ gcut g d p = gcat g d ++ C := by
  intro p
  induction p with
  | zero => intro h; omega
  | succ p ih =>
    intro h
    by_cases e : p = d
    · subst e
      refine ⟨[], by rw [List.append_nil]; rfl, ?_⟩
      show (if p = p then gcut g p p else _) = _
      rw [if_pos rfl, gcut_eq p (Nat.le_refl _), List.append_nil]
    · obtain ⟨C, h1, h2⟩ := ih (by omega)
      refine ⟨C ++ g p, ?_, ?_⟩
      · show gcat g p ++ g p = _
        rw [h1, List.append_assoc]
      · show (if p = d then _ else gcut g d p ++ g p) = _
        rw [if_neg e, h2, List.append_assoc]
theorem ofD_three (l1 l2 l3 : List Nat) : ofD b (l1 ++ l2 ++ l3) = ofD b l1 + 2 ^ (b * l1.length) * (ofD b l2 + 2 ^ (b * l2.length) * ofD b l3) := by
  rw [List.append_assoc, ofD_app, ofD_app]
end PC1
section PC2
variable {α : Type} {g : Nat → List α} {s p y : Nat} {f : α → Nat}
theorem pow_mul_shl (X k : Nat) : X <<< k = 2 ^ k * X := by rw [Nat.shiftLeft_eq, Nat.mul_comm]
/-- without a piece -/
theorem pcut_of (hl : ∀ d, d < p → (g d).length = s) (hy : y < p) (hf : ∀ w, w ∈ gcat g p → f w < 2 ^ 68) : pcut (68 * s) y (ofD 68 ((gcat g p).map f)) = ofD 68 ((gcut g y p).map f) := by
  obtain ⟨C, h1, h2⟩ := gcat_split (g := g) p hy
  show ofD 68 ((gcat g p).map f) % 2 ^ (68 * s * y) + (ofD 68 ((gcat g p).map f) >>> (68 * s * (y + 1))) <<< (68 * s * y) = _
  have la : (gcat g y).length = s * y := gcat_len y (fun d hd => hl d (by omega))
  have A : ofD 68 ((gcat g y).map f) < 2 ^ (68 * s * y) := by
    have := ofD_lt (b := 68) f (gcat g y) (fun w hw => hf w (by rw [h1]; exact List.mem_append_left _ (List.mem_append_left _ hw)))
    rw [la, ← Nat.mul_assoc] at this; exact this
  have B : ofD 68 ((g y).map f) < 2 ^ (68 * s) := by
    have := ofD_lt (b := 68) f (g y) (fun w hw => hf w (by rw [h1]; exact List.mem_append_left _ (List.mem_append_right _ hw)))
    rw [hl y hy] at this; exact this
  rw [h1, h2, List.map_append, List.map_append, List.map_append, ofD_three, ofD_app, List.length_map, List.length_map, la, hl y hy, ← Nat.mul_assoc]
  generalize ofD 68 ((gcat g y).map f) = a at A ⊢
  generalize ofD 68 ((g y).map f) = c at B ⊢
  generalize ofD 68 (C.map f) = e
  rw [Nat.add_mul_mod_self_left, Nat.mod_eq_of_lt A, pow_mul_shl]
  congr 2
  rw [show 68 * s * (y + 1) = 68 * s * y + 68 * s from Nat.mul_succ _ _, Nat.shiftRight_add]
  have e1 : (a + 2 ^ (68 * s * y) * (c + 2 ^ (68 * s) * e)) >>> (68 * s * y) = c + 2 ^ (68 * s) * e := by
    rw [Nat.shiftRight_eq_div_pow, Nat.add_mul_div_left _ _ (Nat.two_pow_pos _), Nat.div_eq_of_lt A, Nat.zero_add]
  rw [e1, Nat.shiftRight_eq_div_pow, Nat.add_mul_div_left _ _ (Nat.two_pow_pos _), Nat.div_eq_of_lt B, Nat.zero_add]
/-- one piece -/
theorem ppc_of {d : Nat} (hl : ∀ d, d < p → (g d).length = s) (hd : d < p) (hf : ∀ w, w ∈ gcat g p → f w < 2 ^ 68) : ppc (68 * s) d (ofD 68 ((gcat g p).map f)) = ofD 68 ((g d).map f) := by
  obtain ⟨C, h1, h2⟩ := gcat_split (g := g) p hd
  show (ofD 68 ((gcat g p).map f) >>> (68 * s * d)) % 2 ^ (68 * s) = _
  have la : (gcat g d).length = s * d := gcat_len d (fun e he => hl e (by omega))
  have A : ofD 68 ((gcat g d).map f) < 2 ^ (68 * s * d) := by
    have := ofD_lt (b := 68) f (gcat g d) (fun w hw => hf w (by rw [h1]; exact List.mem_append_left _ (List.mem_append_left _ hw)))
    rw [la, ← Nat.mul_assoc] at this; exact this
  have B : ofD 68 ((g d).map f) < 2 ^ (68 * s) := by
    have := ofD_lt (b := 68) f (g d) (fun w hw => hf w (by rw [h1]; exact List.mem_append_left _ (List.mem_append_right _ hw)))
    rw [hl d hd] at this; exact this
  rw [h1, List.map_append, List.map_append, ofD_three, List.length_map, List.length_map, la, hl d hd, ← Nat.mul_assoc]
  generalize ofD 68 ((gcat g d).map f) = a at A ⊢
  generalize ofD 68 ((g d).map f) = c at B ⊢
  generalize ofD 68 (C.map f) = e
  rw [Nat.shiftRight_eq_div_pow, Nat.add_mul_div_left _ _ (Nat.two_pow_pos _), Nat.div_eq_of_lt A, Nat.zero_add, Nat.add_mul_mod_self_left, Nat.mod_eq_of_lt B]
/-- nothing but zeros -/
theorem ofD_zero (l : List α) (h : ∀ w, w ∈ l → f w = 0) : ofD 68 (l.map f) = 0 := by
  induction l with
  | nil => rfl
  | cons x l ih =>
    show f x + 2 ^ 68 * ofD 68 (l.map f) = 0
    rw [h x List.mem_cons_self, ih (fun w hw => h w (List.mem_cons_of_mem _ hw))]
/-- one piece where it comes to lie among those left, zeros else -/
theorem ppos_of {d : Nat} {hd : α → Nat} (hl : ∀ d, d < p → (g d).length = s) (hh : ∀ d w, d < p → w ∈ g d → hd w = d) (hdp : d < p) (hdy : d ≠ y) (hy : y < p) (hf : ∀ w, w ∈ gcat g p → f w < 2 ^ 68) : ppos (68 * s) y d (ofD 68 ((gcat g p).map f)) = ofD 68 ((gcut g y p).map (fun w => if hd w = d then f w else 0)) := by
  show (ppc (68 * s) d (ofD 68 ((gcat g p).map f))) <<< (68 * s * (bif Nat.blt d y then d else d - 1)) = _
  rw [ppc_of hl hdp hf]
  -- the list splits at group d
  have key : ∃ A C, gcut g y p = A ++ g d ++ C ∧ A.length = s * (bif Nat.blt d y then d else d - 1) ∧ (∀ w, w ∈ A → hd w ≠ d) ∧ ∀ w, w ∈ C → hd w ≠ d := by
    have gen : ∀ q, q ≤ p → d < q → ∃ A C, gcut g y q = A ++ g d ++ C ∧ A.length = s * (bif Nat.blt d y then d else d - 1) ∧ (∀ w, w ∈ A → hd w ≠ d) ∧ ∀ w, w ∈ C → hd w ≠ d := by
      intro q
      induction q with
      | zero => intro _ h; omega
      | succ q ih =>
        intro hq h
        by_cases e : q = d
        · subst e
          refine ⟨gcut g y q, [], ?_, ?_, ?_, fun w hw => absurd hw List.not_mem_nil⟩
          · show (if q = y then _ else gcut g y q ++ g q) = _
            rw [if_neg hdy, List.append_nil]
          · by_cases c : q < y
            · have : Nat.blt q y = true := Nat.ble_eq_true_of_le c
              rw [this, gcut_eq q (by omega), gcat_len q (fun e he => hl e (by omega))]; rfl
            · have : Nat.blt q y = false := by
                cases hb : Nat.blt q y with
                | false => rfl
                | true => exact absurd (Nat.le_of_ble_eq_true hb) c
              rw [this, gcut_len q (fun e he => hl e (by omega)) (by omega)]; rfl
          · intro w hw
            obtain ⟨e, e1, e2, e3⟩ := (gcut_mem q).mp hw
            rw [hh e w (by omega) e3]; omega
        · obtain ⟨A, C, h1, h2, h3, h4⟩ := ih (by omega) (by omega)
          by_cases c : q = y
          · refine ⟨A, C, ?_, h2, h3, h4⟩
            show (if q = y then gcut g y q else _) = _
            rw [if_pos c, h1]
          · refine ⟨A, C ++ g q, ?_, h2, h3, fun w hw => ?_⟩
            · show (if q = y then _ else gcut g y q ++ g q) = _
              rw [if_neg c, h1, List.append_assoc]
            · rcases List.mem_append.mp hw with hw | hw
              · exact h4 w hw
              · rw [hh q w (by omega) hw]; exact e
    exact gen p (Nat.le_refl _) hdp
  obtain ⟨A, C, h1, h2, h3, h4⟩ := key
  rw [h1, List.map_append, List.map_append, ofD_three, List.length_map, h2, ofD_zero A (fun w hw => if_neg (h3 w hw)), ofD_zero C (fun w hw => if_neg (h4 w hw)), Nat.mul_zero, Nat.add_zero, Nat.zero_add, pow_mul_shl, ← Nat.mul_assoc]
  congr 1
  exact ofD_congr (fun w hw => (if_pos (hh d w hdp hw)).symm)
/-- pieces put one behind another -/
theorem pgat_of {S : Nat} {F : Nat → Nat} (hl : ∀ y, y < p → (g y).length = S) (hF : ∀ y, y < p → F y = ofD 68 ((g y).map f)) : pgat (68 * S) F p = ofD 68 ((gcat g p).map f) := by
  induction p with
  | zero => rfl
  | succ p ih =>
    show pgat (68 * S) F p + (F p) <<< (68 * S * p) = ofD 68 ((gcat g p ++ g p).map f)
    rw [ih (fun y hy => hl y (by omega)) (fun y hy => hF y (by omega)), hF p (by omega), List.map_append, ofD_app, List.length_map, gcat_len p (fun d hd => hl d (by omega)), pow_mul_shl, Nat.mul_assoc]
end PC2
