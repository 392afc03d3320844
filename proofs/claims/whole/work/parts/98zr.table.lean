/-! ===== laying a board: the table of places, by itself ===== -/
theorem fd_least {P : Nat → Prop} : ∀ k, P k → ∃ m, m ≤ k ∧ P m ∧ ∀ i, i < m → ¬ P i := by
  intro k
  induction k using Nat.strongRecOn with
  | _ k ih =>
    intro hk
    by_cases e : ∃ i, i < k ∧ P i
    · obtain ⟨i, h1, h2⟩ := e
      obtain ⟨m, a, b⟩ := ih i h1 h2
      exact ⟨m, by omega, b⟩
    · exact ⟨k, Nat.le_refl k, hk, fun i hi hp => e ⟨i, hi, hp⟩⟩
/-- n tiles lie in the table, each on its way from its hash -/
def fd_ok (n : Nat) (tb H : Nat → Nat) : Prop := (∀ y, y < 8192 → tb y ≤ n) ∧ (∀ t, t < n → ∃ k, tb ((H t + k) % 8192) = t + 1 ∧ ∀ i, i < k → tb ((H t + i) % 8192) ≠ 0) ∧ sm (fun y => if tb y = 0 then 1 else 0) 8192 + n = 8192
section FD2
variable {n : Nat} {tb H : Nat → Nat} {E : Nat → Prop} {h : Nat}
theorem fd_free (hn : n ≤ 2000) (ho : fd_ok n tb H) (h : Nat) : ∃ k, tb ((h + k) % 8192) = 0 ∧ ∀ i, i < k → tb ((h + i) % 8192) ≠ 0 := by
  obtain ⟨y, y1, y2⟩ := sm_pos (f := fun y => if tb y = 0 then 1 else 0) (n := 8192) (by have := ho.2.2; omega)
  have y0 : tb y = 0 := by
    by_cases e : tb y = 0
    · exact e
    · exact absurd (if_neg e) y2
  have hl := Nat.mod_lt h (show 0 < 8192 by decide)
  have e : (h + (y + 8192 - h % 8192)) % 8192 = y := by omega
  obtain ⟨m, _, m2, m3⟩ := fd_least (P := fun k => tb ((h + k) % 8192) = 0) (y + 8192 - h % 8192) (by rw [e]; exact y0)
  exact ⟨m, m2, m3⟩
/-- a tile with the vector held is found -/
theorem fd_look1 (ho : fd_ok n tb H) (hH : ∀ t, t < n → E t → H t = h) (hi : ∀ t u, t < n → u < n → E t → E u → t = u) {t : Nat} (ht : t < n) (hE : E t) : ∃ k, tb ((h + k) % 8192) = t + 1 ∧ ∀ i, i < k → tb ((h + i) % 8192) ≠ 0 ∧ ¬ E (tb ((h + i) % 8192) - 1) := by
  obtain ⟨k, k1, k2⟩ := ho.2.1 t ht
  rw [hH t ht hE] at k1 k2
  obtain ⟨m, m1, m2, m3⟩ := fd_least (P := fun k => tb ((h + k) % 8192) = t + 1) k k1
  refine ⟨m, m2, fun i hm => ?_⟩
  have nz := k2 i (by omega)
  refine ⟨nz, fun hE' => m3 i hm ?_⟩
  have hl := ho.1 ((h + i) % 8192) (Nat.mod_lt _ (by decide))
  have := hi t (tb ((h + i) % 8192) - 1) ht (by omega) hE hE'
  show tb ((h + i) % 8192) = t + 1
  omega
/-- no tile has the vector held: a free place is found -/
theorem fd_look0 (hn : n ≤ 2000) (ho : fd_ok n tb H) (hE : ∀ t, t < n → ¬ E t) (h : Nat) : ∃ k, tb ((h + k) % 8192) = 0 ∧ ∀ i, i < k → tb ((h + i) % 8192) ≠ 0 ∧ ¬ E (tb ((h + i) % 8192) - 1) := by
  obtain ⟨k, k1, k2⟩ := fd_free hn ho h
  refine ⟨k, k1, fun i hm => ⟨k2 i hm, hE _ ?_⟩⟩
  have hl := ho.1 ((h + i) % 8192) (Nat.mod_lt _ (by decide))
  have := k2 i hm
  omega
/-- a tile is put into the free place -/
theorem fd_put {H' : Nat → Nat} {k : Nat} (ho : fd_ok n tb H) (h0 : tb ((h + k) % 8192) = 0) (hk : ∀ i, i < k → tb ((h + i) % 8192) ≠ 0) (hH : ∀ t, t < n → H' t = H t) (hN : H' n = h) : fd_ok (n + 1) (kl_u tb ((h + k) % 8192) (n + 1)) H' := by
  have at' : kl_u tb ((h + k) % 8192) (n + 1) ((h + k) % 8192) = n + 1 := if_pos rfl
  have keep : ∀ y, tb y ≠ 0 → kl_u tb ((h + k) % 8192) (n + 1) y = tb y := fun y hy => if_neg (fun e : y = (h + k) % 8192 => hy (by rw [e]; exact h0))
  refine ⟨fun y hy => ?_, fun t ht => ?_, ?_⟩
  · by_cases e : y = (h + k) % 8192
    · rw [e, at']; exact Nat.le_refl _
    · have := ho.1 y hy
      rw [show kl_u tb ((h + k) % 8192) (n + 1) y = tb y from if_neg e]
      omega
  · by_cases e : t = n
    · subst e
      rw [hN]
      exact ⟨k, at', fun i hi => by rw [keep _ (hk i hi)]; exact hk i hi⟩
    · obtain ⟨m, m1, m2⟩ := ho.2.1 t (by omega)
      rw [hH t (by omega)]
      exact ⟨m, by rw [keep _ (by omega)]; exact m1, fun i hi => by rw [keep _ (m2 i hi)]; exact m2 i hi⟩
  · have e : sm (fun y => if tb y = 0 then 1 else 0) 8192 = sm (fun y => (if kl_u tb ((h + k) % 8192) (n + 1) y = 0 then 1 else 0) + (if (h + k) % 8192 = y then 1 else 0)) 8192 := by
      refine sm_congr (fun y _ => ?_)
      by_cases e : y = (h + k) % 8192
      · subst e
        rw [at', h0, if_pos rfl, if_pos rfl, if_neg (by omega)]
      · rw [show kl_u tb ((h + k) % 8192) (n + 1) y = tb y from if_neg e, if_neg (c := (h + k) % 8192 = y) (fun z => e z.symm), Nat.add_zero]
    have s := sm_single (f := fun _ => 1) (a := (h + k) % 8192) 8192
    rw [if_pos (Nat.mod_lt _ (by decide))] at s
    rw [sm_add, s] at e
    have := ho.2.2
    omega
theorem fd_ok0 {tb H : Nat → Nat} (h : ∀ y, y < 8192 → tb y = 0) : fd_ok 0 tb H := by
  refine ⟨fun y hy => Nat.le_of_eq (h y hy), fun t ht => absurd ht (Nat.not_lt_zero t), ?_⟩
  have e : sm (fun y => if tb y = 0 then 1 else 0) 8192 = sm (fun _ => 1) 8192 := sm_congr (fun y hy => if_pos (h y hy))
  rw [e, sm_one]
end FD2
