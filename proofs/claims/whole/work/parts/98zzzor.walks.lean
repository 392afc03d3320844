/-! ===== three sides, faster (1): walks round a corner ===== -/
noncomputable def kd {β : Type} (no : β) (k : Nat) : Nat → Nat → Nat → (Nat → Nat → Nat → β) → β := Nat.rec (motive := fun _ => Nat → Nat → Nat → (Nat → Nat → Nat → β) → β) (fun t Y Y' sc => sc t Y Y') (fun _ ih t Y Y' sc => Nat.rec (motive := fun _ => β) no (fun u _ => Bool.rec (motive := fun _ => β) no (ih u Y' Y sc) (Nat.ble (Nat.succ u) t)) (Nat.mod (Nat.shiftRight Y (Nat.mul 12 t)) 4096)) k
noncomputable def ku {β : Type} (er0 no : β) (k : Nat) : Nat → Nat → Nat → (Nat → β) → β := Nat.rec (motive := fun _ => Nat → Nat → Nat → (Nat → β) → β) (fun t _ _ sc => sc t) (fun _ ih t Y Y' sc => Nat.rec (motive := fun _ => β) no (fun u _ => Bool.rec (motive := fun _ => β) er0 (ih u Y' Y sc) (Nat.ble (Nat.succ t) u)) (Nat.mod (Nat.shiftRight Y (Nat.mul 12 t)) 4096)) k
noncomputable def kj {β : Type} (er0 no : β) (m t Y Y' : Nat) (sc : Nat → β) : β := Nat.rec (motive := fun _ => β) no (fun k _ => kd no k t Y Y' (fun z Yz Yz' => ku er0 no k z Yz Yz' sc)) m
theorem fd_eq (Y t : Nat) : Nat.mod (Nat.shiftRight Y (Nat.mul 12 t)) 4096 = fl 12 Y t := rfl
theorem b_rec {β : Type} {a b : β} {x y : Nat} : Bool.rec (motive := fun _ => β) a b (Nat.ble (Nat.succ x) y) = if x < y then b else a := by
  by_cases c : x < y
  · rw [if_pos c, Nat.ble_eq_true_of_le (show Nat.succ x ≤ y from c)]
  · rw [if_neg c, Bool.eq_false_iff.mpr (fun z => c (Nat.le_of_ble_eq_true z))]
theorem n_rec {β : Type} {a : β} {f : Nat → β} {e : Nat} : Nat.rec (motive := fun _ => β) a (fun u _ => f u) e = if e = 0 then a else f (e - 1) := by
  cases e with
  | zero => exact (if_pos rfl).symm
  | succ e => rw [if_neg (Nat.succ_ne_zero e)]; rfl
/-- what is known of neighbours under way, by tables -/
def WT (N a b : Nat) (T : Nat → Nat) (ac : Nat → Nat → Nat) (G : Nat → Nat) : Prop := N ≤ 2000 ∧ ∀ x y, x < N → (y = a ∨ y = b) → ac x y = de (fl 12 (T y) x) ∧ fl 12 (T y) x ≤ 2000 ∧ (ac x y < 2000 → ac x y < N ∧ ac (ac x y) y = x ∧ (G (ac x y) < G x ↔ ac x y < x))
section KW2
variable {N a b w : Nat} {T : Nat → Nat} {ac : Nat → Nat → Nat} {G : Nat → Nat}
theorem kd_sem {β : Type} (no : β) (sc : Nat → Nat → Nat → β) (hw : w = a + b) (h : WT N a b T ac G) : ∀ (k t y y' : Nat), t < N → (y = a ∧ y' = b ∨ y = b ∧ y' = a) → (kd no k t (T y) (T y') sc = no ∧ ¬ (jr_dn ac G w k t y).1 < 2000) ∨ ∃ z l0 l1, jr_dn ac G w k t y = (z, l1) ∧ kd no k t (T y) (T y') sc = sc z (T l1) (T l0) ∧ z < N ∧ (l1 = a ∧ l0 = b ∨ l1 = b ∧ l0 = a) ∧ up ac l0 l1 z k t ∧ al l0 l1 k = y' ∧ al l1 l0 k = y := by
  obtain ⟨hN, h⟩ := h
  intro k
  induction k with
  | zero => intro t y y' ht hy; exact Or.inr ⟨t, y', y, rfl, rfl, ht, by omega, rfl, rfl, rfl⟩
  | succ k ih =>
    intro t y y' ht hy
    obtain ⟨h1, h2, h3⟩ := h t y ht (by omega)
    have e1 : kd no (k + 1) t (T y) (T y') sc = Nat.rec (motive := fun _ => β) no (fun u _ => Bool.rec (motive := fun _ => β) no (kd no k u (T y') (T y) sc) (Nat.ble (Nat.succ u) t)) (fl 12 (T y) t) := rfl
    have e2 : jr_dn ac G w (k + 1) t y = if ac t y < 2000 ∧ G (ac t y) < G t then jr_dn ac G w k (ac t y) (w - y) else (2000, y) := rfl
    rw [e1, n_rec]
    obtain ⟨d1, d2, d3⟩ := de_lt h2
    by_cases c : fl 12 (T y) t = 0
    · left
      rw [if_pos c]
      refine ⟨rfl, ?_⟩
      have nl : ¬ ac t y < 2000 := by rw [h1]; exact fun z => d1.mp z c
      rw [e2, if_neg (fun z : ac t y < 2000 ∧ G (ac t y) < G t => nl z.1)]
      exact Nat.lt_irrefl 2000
    · rw [if_neg c, b_rec]
      have u1 : ac t y < 2000 := by rw [h1]; exact d1.mpr c
      have u2 : fl 12 (T y) t - 1 = ac t y := by
        have := d3 c
        rw [← h1] at this
        omega
      obtain ⟨u3, u4, u5⟩ := h3 u1
      rw [u2]
      by_cases c2 : ac t y < t
      · rw [if_pos c2, e2, if_pos (And.intro u1 (u5.mpr c2)), show w - y = y' by omega]
        rcases ih (ac t y) y' y u3 (by omega) with ⟨i1, i2⟩ | ⟨z, l0, l1, i1, i2, i3, i4, i5, i6, i7⟩
        · exact Or.inl ⟨i1, i2⟩
        · right
          refine ⟨z, l0, l1, i1, i2, i3, i4, ⟨ac t y, i5, c2, by omega, by rw [i6], by rw [i6]; exact u4⟩, by rw [al_s]; exact i7, by rw [al_s]; exact i6⟩
      · left
        rw [if_neg c2]
        refine ⟨rfl, ?_⟩
        rw [e2, if_neg (fun z : ac t y < 2000 ∧ G (ac t y) < G t => c2 (u5.mp z.2))]
        exact Nat.lt_irrefl 2000
theorem jr_up_no : ∀ (k y : Nat), jr_up ac w k 2000 y = 2000 := by
  intro k y
  cases k with
  | zero => rfl
  | succ k => exact if_neg (Nat.lt_irrefl 2000)
theorem ku_sem {β : Type} (er0 no : β) (sc : Nat → β) (hw : w = a + b) (h : WT N a b T ac G) {l0 l1 z : Nat} : ∀ (k t y y' i : Nat), t < N → (y = a ∧ y' = b ∨ y = b ∧ y' = a) → up ac l0 l1 z i t → al l0 l1 i = y → al l1 l0 i = y' → ku er0 no k t (T y) (T y') sc = er0 ∨ (ku er0 no k t (T y) (T y') sc = no ∧ ¬ jr_up ac w k t y < 2000) ∨ (ku er0 no k t (T y) (T y') sc = sc (jr_up ac w k t y) ∧ jr_up ac w k t y < N ∧ up ac l0 l1 z (i + k) (jr_up ac w k t y)) := by
  obtain ⟨hN, h⟩ := h
  intro k
  induction k with
  | zero => intro t y y' i ht hy hu _ _; exact Or.inr (Or.inr ⟨rfl, ht, hu⟩)
  | succ k ih =>
    intro t y y' i ht hy hu a1 a2
    obtain ⟨h1, h2, h3⟩ := h t y ht (by omega)
    have e1 : ku er0 no (k + 1) t (T y) (T y') sc = Nat.rec (motive := fun _ => β) no (fun u _ => Bool.rec (motive := fun _ => β) er0 (ku er0 no k u (T y') (T y) sc) (Nat.ble (Nat.succ t) u)) (fl 12 (T y) t) := rfl
    have e2 : jr_up ac w (k + 1) t y = jr_up ac w k (ac t y) (w - y) := if_pos (show t < 2000 by omega)
    rw [e1, n_rec, e2, show w - y = y' by omega]
    obtain ⟨d1, d2, d3⟩ := de_lt h2
    by_cases c : fl 12 (T y) t = 0
    · right; left
      rw [if_pos c]
      refine ⟨rfl, ?_⟩
      have e3 : ac t y = 2000 := by rw [h1, c]; rfl
      rw [e3, jr_up_no]
      exact Nat.lt_irrefl 2000
    · rw [if_neg c, b_rec]
      have u1 : ac t y < 2000 := by rw [h1]; exact d1.mpr c
      have u2 : fl 12 (T y) t - 1 = ac t y := by
        have := d3 c
        rw [← h1] at this
        omega
      obtain ⟨u3, u4, u5⟩ := h3 u1
      rw [u2]
      by_cases c2 : t < ac t y
      · rw [if_pos c2]
        have hu' : up ac l0 l1 z (i + 1) (ac t y) := ⟨t, hu, c2, u1, by rw [a1]; exact u4, by rw [a1]⟩
        rcases ih (ac t y) y' y (i + 1) u3 (by omega) hu' (by rw [al_s]; exact a2) (by rw [al_s]; exact a1) with i1 | i1 | ⟨i1, i2, i3⟩
        · exact Or.inl i1
        · exact Or.inr (Or.inl i1)
        · right; right
          refine ⟨i1, i2, ?_⟩
          rw [show i + (k + 1) = i + 1 + k by omega]
          exact i3
      · left
        rw [if_neg c2]
/-- what a walk round a corner finds -/
theorem kj_sem {β : Type} (er0 no : β) (sc : Nat → β) {s r m t : Nat} (hab : s = a ∧ r = b ∨ s = b ∧ r = a) (h : WT N a b T ac G) (ht : t < N) : kj er0 no m t (T r) (T s) sc = er0 ∨ (kj er0 no m t (T r) (T s) sc = no ∧ ¬ jr ac G (s + r) m t r < 2000) ∨ (kj er0 no m t (T r) (T s) sc = sc (jr ac G (s + r) m t r) ∧ jr ac G (s + r) m t r < N ∧ m ≠ 0 ∧ ∃ l0 l1 z, (l0 = s ∧ l1 = r ∨ l0 = r ∧ l1 = s) ∧ up ac l0 l1 z (m - 1) t ∧ up ac l1 l0 z (m - 1) (jr ac G (s + r) m t r) ∧ al l0 l1 (m - 1) = s ∧ al l1 l0 (m - 1) = r) := by
  cases m with
  | zero => exact Or.inr (Or.inl ⟨rfl, Nat.lt_irrefl 2000⟩)
  | succ m =>
    have hw : s + r = a + b := by omega
    have e1 : kj er0 no (m + 1) t (T r) (T s) sc = kd no m t (T r) (T s) (fun z Yz Yz' => ku er0 no m z Yz Yz' sc) := rfl
    have e2 : jr ac G (s + r) (m + 1) t r = if (jr_dn ac G (s + r) m t r).1 < 2000 then jr_up ac (s + r) m (jr_dn ac G (s + r) m t r).1 (jr_dn ac G (s + r) m t r).2 else 2000 := rfl
    rw [e1, e2]
    rcases kd_sem no (fun z Yz Yz' => ku er0 no m z Yz Yz' sc) hw h m t r s ht (by omega) with ⟨i1, i2⟩ | ⟨z, l0, l1, i1, i2, i3, i4, i5, i6, i7⟩
    · right; left
      rw [if_neg i2]
      exact ⟨i1, Nat.lt_irrefl 2000⟩
    · rw [i2, i1]
      have z2 : z < 2000 := Nat.lt_of_lt_of_le i3 h.1
      show ku er0 no m z (T l1) (T l0) sc = er0 ∨ (ku er0 no m z (T l1) (T l0) sc = no ∧ ¬ (if z < 2000 then jr_up ac (s + r) m z l1 else 2000) < 2000) ∨ (ku er0 no m z (T l1) (T l0) sc = sc (if z < 2000 then jr_up ac (s + r) m z l1 else 2000) ∧ (if z < 2000 then jr_up ac (s + r) m z l1 else 2000) < N ∧ m + 1 ≠ 0 ∧ ∃ l0 l1_1 z_1, _)
      rw [if_pos z2]
      rcases ku_sem er0 no sc hw h (l0 := l1) (l1 := l0) (z := z) m z l1 l0 0 i3 (by omega) rfl rfl rfl with j1 | j1 | ⟨j1, j2, j3⟩
      · exact Or.inl j1
      · exact Or.inr (Or.inl j1)
      · right; right
        rw [Nat.zero_add] at j3
        exact ⟨j1, j2, Nat.succ_ne_zero m, l0, l1, z, by omega, i5, j3, i6, i7⟩
end KW2
