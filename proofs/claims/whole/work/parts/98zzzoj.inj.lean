/-! ===== six sides or more: words of at most five sides are known by their numbers of steps ===== -/
section IN1
variable {p : Nat} {cs : Nat → Nat}
theorem wd_suf {v : List Nat} : ∀ (u : List Nat) (q : wd_q), wd_t p cs (u ++ v) = some q → ∃ q', wd_t p cs v = some q' := by
  intro u
  induction u with
  | nil => intro q h; exact ⟨q, h⟩
  | cons y u ih =>
    intro q h
    obtain ⟨q1, h1, _, _⟩ := wd_uncons (show wd_t p cs (y :: (u ++ v)) = some q from h)
    exact ih q1 h1
theorem dn_suf {v : List Nat} {y : Nat} : ∀ (u : List Nat), y ∉ u → dn p cs (u ++ v) y = dn p cs v y := by
  intro u
  induction u with
  | nil => intro _; rfl
  | cons x u ih =>
    intro h
    show (if y = x then _ else dn p cs (u ++ v) y) = _
    rw [if_neg (fun e => h (by rw [e]; exact List.mem_cons_self))]
    exact ih (fun e => h (List.mem_cons_of_mem _ e))
/-- a side that a word uses just once has a number of steps -/
theorem one_nz (hp : 5 ≤ p) (hcs : ∀ j, j < p + 1 → cs j < 10 ∧ cs j ≠ 1) (hall : ∀ z, z < p + 1 → INJ p (ev_c p z cs)) {w : List Nat} {q : wd_q} (h : wd_t (p + 1) cs w = some q) (l : w.length ≤ 5) {y : Nat} (hy : w.count y = 1) : ¬ cg an_P1 (dn (p + 1) cs w y) 0 := by
  intro h0
  have hm : y ∈ w := List.count_pos_iff.mp (by omega)
  obtain ⟨u, v, e⟩ := List.append_of_mem hm
  subst e
  rw [List.count_append, List.count_cons_self] at hy
  have yu : y ∉ u := List.count_eq_zero.mp (by omega)
  have yv : y ∉ v := List.count_eq_zero.mp (by omega)
  rw [List.length_append, List.length_cons] at l
  obtain ⟨q1, h1⟩ := wd_suf u q h
  obtain ⟨q2, h2, _, _⟩ := wd_uncons h1
  rw [dn_suf u yu] at h0
  obtain ⟨z, z1, z2⟩ := out_ex (p + 1) (y :: v) (by rw [List.length_cons]; omega)
  have e := INJ_z (by omega) hcs z1 (hall z z1) h1 h2 (by rw [List.length_cons]; omega) (by omega) z2 (fun c => z2 (List.mem_cons_of_mem _ c)) (fun i hi => by
    by_cases c : i = y
    · rw [c, dn_out v y yv]
      exact h0
    · have : dn (p + 1) cs (y :: v) i = dn (p + 1) cs v i := if_neg c
      rw [this]
      exact cg_refl _ _)
  have := congrArg List.length e
  rw [List.length_cons] at this
  omega
theorem cnt_cons (a : Nat) (w : List Nat) : ∀ N, sm (fun z => (a :: w).count z) N ≤ sm (fun z => w.count z) N + (if a < N then 1 else 0) := by
  intro N
  induction N with
  | zero => exact Nat.zero_le _
  | succ N ih =>
    show sm (fun z => (a :: w).count z) N + (a :: w).count N ≤ sm (fun z => w.count z) N + w.count N + _
    by_cases c : a = N
    · subst c
      rw [List.count_cons_self, if_pos (Nat.lt_succ_self a)]
      rw [if_neg (Nat.lt_irrefl a)] at ih
      omega
    · rw [List.count_cons_of_ne c]
      by_cases c2 : a < N
      · rw [if_pos c2] at ih
        rw [if_pos (by omega)]
        omega
      · rw [if_neg c2] at ih
        omega
theorem cnt_sum : ∀ (w : List Nat) (N : Nat), sm (fun z => w.count z) N ≤ w.length := by
  intro w
  induction w with
  | nil =>
    intro N
    have : sm (fun z => ([] : List Nat).count z) N = 0 := (sm_congr (g := fun _ => 0) (fun _ _ => rfl)).trans (sm_zero N)
    rw [this]; exact Nat.zero_le _
  | cons a w ih =>
    intro N
    have h1 := cnt_cons a w N
    have h2 := ih N
    rw [List.length_cons]
    by_cases c : a < N
    · rw [if_pos c] at h1; omega
    · rw [if_neg c] at h1; omega
theorem sm_two {f g : Nat → Nat} : ∀ N, (∀ z, z < N → 2 ≤ f z + g z) → 2 * N ≤ sm f N + sm g N := by
  intro N
  induction N with
  | zero => intro _; exact Nat.zero_le _
  | succ N ih =>
    intro h
    have h1 := ih (fun z hz => h z (by omega))
    have h2 := h N (Nat.lt_succ_self N)
    show 2 * (N + 1) ≤ sm f N + f N + (sm g N + g N)
    omega
theorem INJ_up (hp : 5 ≤ p) (hcs : ∀ j, j < p + 1 → cs j < 10 ∧ cs j ≠ 1) (hall : ∀ z, z < p + 1 → INJ p (ev_c p z cs)) : INJ (p + 1) cs := by
  intro w w' q q' h h' l l' he
  by_cases c : ∃ z, z < p + 1 ∧ z ∉ w ∧ z ∉ w'
  · obtain ⟨z, z1, z2, z3⟩ := c
    exact INJ_z (by omega) hcs z1 (hall z z1) h h' l l' z2 z3 he
  · exfalso
    have two : ∀ z, z < p + 1 → 2 ≤ w.count z + w'.count z := fun z hz => by
      have e := he z hz
      by_cases a : z ∈ w
      · have ca := List.count_pos_iff.mpr a
        by_cases b : z ∈ w'
        · have cb := List.count_pos_iff.mpr b
          omega
        · rw [dn_out w' z b] at e
          by_cases c1 : w.count z = 1
          · exact absurd e (one_nz hp hcs hall h l c1)
          · omega
      · by_cases b : z ∈ w'
        · have cb := List.count_pos_iff.mpr b
          rw [dn_out w z a] at e
          by_cases c1 : w'.count z = 1
          · exact absurd (cg_symm e) (one_nz hp hcs hall h' l' c1)
          · omega
        · exact absurd ⟨z, hz, a, b⟩ c
    have s := sm_two (f := fun z => w.count z) (g := fun z => w'.count z) (p + 1) two
    have s1 := cnt_sum w (p + 1)
    have s2 := cnt_sum w' (p + 1)
    omega
end IN1
theorem INJ_6 (hck : ∀ x, x < 6561 → atc 5 (9 * x) at5c = true) {cs : Nat → Nat} (hcs : ∀ j, j < 6 → cs j < 10 ∧ cs j ≠ 1) : INJ 6 cs :=
  INJ_up (p := 5) (by decide) hcs (fun z hz => INJ_5 hck (ev_lab (by omega) hcs) (by show ev_c 5 z cs 4 = 0; unfold ev_c; exact if_pos rfl))
theorem INJ_7 (hck : ∀ x, x < 6561 → atc 5 (9 * x) at5c = true) {cs : Nat → Nat} (hcs : ∀ j, j < 7 → cs j < 10 ∧ cs j ≠ 1) : INJ 7 cs :=
  INJ_up (p := 6) (by decide) hcs (fun z hz => INJ_6 hck (ev_lab (by omega) hcs))
theorem INJ_8 (hck : ∀ x, x < 6561 → atc 5 (9 * x) at5c = true) {cs : Nat → Nat} (hcs : ∀ j, j < 8 → cs j < 10 ∧ cs j ≠ 1) : INJ 8 cs :=
  INJ_up (p := 7) (by decide) hcs (fun z hz => INJ_7 hck (ev_lab (by omega) hcs))
