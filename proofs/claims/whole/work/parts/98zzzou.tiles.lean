/-! ===== three sides, faster (4): one tile, and all ===== -/
abbrev Sf : Type := Nat × Nat × Nat × Nat × Nat × Nat × Nat × Nat × Nat
def dn9 (X : Nat) : Sf := (0, 0, 0, 0, 0, 0, X, 0, 0)
noncomputable def un9 {β : Type} (σ : Sf) (F : Nat → Nat → Nat → Nat → Nat → Nat → Nat → Nat → Nat → β) : β := Prod.rec (motive := fun _ => β) (fun n σ => Prod.rec (motive := fun _ => β) (fun t σ => Prod.rec (motive := fun _ => β) (fun B0 σ => Prod.rec (motive := fun _ => β) (fun B1 σ => Prod.rec (motive := fun _ => β) (fun B2 σ => Prod.rec (motive := fun _ => β) (fun V σ => Prod.rec (motive := fun _ => β) (fun X σ => Prod.rec (motive := fun _ => β) (fun te c => F n t B0 B1 B2 V X te c) σ) σ) σ) σ) σ) σ) σ) σ
noncomputable def f3 (n t B0 B1 B2 V X te c : Nat) : Sf := nst (Nat.add t 1) fun t1 => Bool.rec (motive := fun _ => Sf) (dn9 0) (Nat.rec (motive := fun _ => Sf) (nst (Nat.add c 1) fun c1 => Bool.rec (motive := fun _ => Sf) (dn9 0) (n, t1, B0, B1, B2, V, X, n, c1) (Nat.ble (Nat.succ c1) 62)) (fun _ _ => (n, t1, B0, B1, B2, V, X, te, c)) (Nat.sub te t1)) (Nat.ble (Nat.succ t1) n)
noncomputable def f2 (m0 m1 m2 c0 c1 c2 n t r B0 B1 B2 V X te c : Nat) : Sf := sd (dn9 0) dn9 64 0 32 c2 c1 m2 m1 n t r B2 B0 B1 V X (fun n B2 B0 B1 V X => f3 n t B0 B1 B2 V X te c)
noncomputable def f1 (m0 m1 m2 c0 c1 c2 n t r B0 B1 B2 V X te c : Nat) : Sf := sd (dn9 0) dn9 32 64 0 c1 c0 m1 m0 n t r B1 B2 B0 V X (fun n B1 B2 B0 V X => f2 m0 m1 m2 c0 c1 c2 n t r B0 B1 B2 V X te c)
noncomputable def f0 (m0 m1 m2 c0 c1 c2 n t r B0 B1 B2 V X te c : Nat) : Sf := sd (dn9 0) dn9 0 32 64 c0 c2 m0 m2 n t r B0 B1 B2 V X (fun n B0 B1 B2 V X => f1 m0 m1 m2 c0 c1 c2 n t r B0 B1 B2 V X te c)
noncomputable def ft (m0 m1 m2 c0 c1 c2 n t B0 B1 B2 V X te c : Nat) : Sf := Nat.rec (motive := fun _ => Sf) (dn9 X) (fun _ _ => nst (Nat.mod (Nat.shiftRight V (Nat.mul 96 t)) 79228162514264337593543950336) fun r => f0 m0 m1 m2 c0 c1 c2 n t r B0 B1 B2 V X te c) n
def Tu (s Ba Bb Bc y : Nat) : Nat := if y = s then Ba else if y = (s + 1) % 3 then Bb else Bc
noncomputable def fq (M C : Nat → Nat) (s n t r : Nat) (T : Nat → Nat) (V X te c : Nat) : Sf := if s = 0 then f0 (M 0) (M 1) (M 2) (C 0) (C 1) (C 2) n t r (T 0) (T 1) (T 2) V X te c else if s = 1 then f1 (M 0) (M 1) (M 2) (C 0) (C 1) (C 2) n t r (T 0) (T 1) (T 2) V X te c else if s = 2 then f2 (M 0) (M 1) (M 2) (C 0) (C 1) (C 2) n t r (T 0) (T 1) (T 2) V X te c else f3 n t (T 0) (T 1) (T 2) V X te c
section FQ1
variable {M C T T' : Nat → Nat} {s n t r V X te c : Nat}
theorem fq_sd (hs : s < 3) : fq M C s n t r T V X te c = sd (dn9 0) dn9 (32 * s) (32 * ((s + 1) % 3)) (32 * ((s + 3 - 1) % 3)) (C s) (C ((s + 3 - 1) % 3)) (M s) (M ((s + 3 - 1) % 3)) n t r (T s) (T ((s + 1) % 3)) (T ((s + 3 - 1) % 3)) V X (fun n Ba Bb Bc V X => fq M C (s + 1) n t r (Tu s Ba Bb Bc) V X te c) := by
  have : s = 0 ∨ s = 1 ∨ s = 2 := by omega
  rcases this with e | e | e <;> subst e <;> rfl
theorem fq_congr (h : ∀ y, y < 3 → T y = T' y) : fq M C s n t r T V X te c = fq M C s n t r T' V X te c := by
  unfold fq
  rw [h 0 (by decide), h 1 (by decide), h 2 (by decide)]
theorem Tu_same (hs : s < 3) : ∀ y, y < 3 → Tu s (T s) (T ((s + 1) % 3)) (T ((s + 3 - 1) % 3)) y = T y := fun y hy => by
  have h1 : s = 0 ∨ s = 1 ∨ s = 2 := by omega
  have h2 : y = 0 ∨ y = 1 ∨ y = 2 := by omega
  rcases h1 with e | e | e <;> subst e <;> rcases h2 with e | e | e <;> subst e <;> rfl
theorem f3_cases : f3 n t (T 0) (T 1) (T 2) V X te c = dn9 0 ∨ (t + 1 < n ∧ t + 1 < te ∧ f3 n t (T 0) (T 1) (T 2) V X te c = (n, t + 1, T 0, T 1, T 2, V, X, te, c)) ∨ (t + 1 < n ∧ ¬ t + 1 < te ∧ c + 1 < 62 ∧ f3 n t (T 0) (T 1) (T 2) V X te c = (n, t + 1, T 0, T 1, T 2, V, X, n, c + 1)) := by
  have e : f3 n t (T 0) (T 1) (T 2) V X te c = if t + 1 < n then (if te - (t + 1) = 0 then (if c + 1 < 62 then (n, t + 1, T 0, T 1, T 2, V, X, n, c + 1) else dn9 0) else (n, t + 1, T 0, T 1, T 2, V, X, te, c)) else dn9 0 := by
    unfold f3
    rw [nst_eq, b_rec, n_rec, nst_eq, b_rec]
    rfl
  rw [e]
  by_cases c1 : t + 1 < n
  · rw [if_pos c1]
    by_cases c2 : te - (t + 1) = 0
    · rw [if_pos c2]
      by_cases c3 : c + 1 < 62
      · rw [if_pos c3]
        exact Or.inr (Or.inr ⟨c1, by omega, c3, rfl⟩)
      · rw [if_neg c3]
        exact Or.inl rfl
    · rw [if_neg c2]
      exact Or.inr (Or.inl ⟨c1, by omega, rfl⟩)
  · rw [if_neg c1]
    exact Or.inl rfl
end FQ1
noncomputable def stp9 (M C : Nat → Nat) (σ : Sf) : Sf := un9 σ (ft (M 0) (M 1) (M 2) (C 0) (C 1) (C 2))
noncomputable def itr9 (M C : Nat → Nat) : Nat → Sf → Sf
  | 0, σ => σ
  | k + 1, σ => itr9 M C k (stp9 M C σ)
noncomputable def dbl9 (m0 m1 m2 c0 c1 c2 k : Nat) : Sf → Sf := Nat.rec (motive := fun _ => Sf → Sf) (fun σ => un9 σ (ft m0 m1 m2 c0 c1 c2)) (fun _ ih σ => un9 (ih σ) (fun n t B0 B1 B2 V X te c => ih (n, t, B0, B1, B2, V, X, te, c))) k
def fin9 (σ : Sf) : Prop := σ.1 = 0 ∧ okX σ.2.2.2.2.2.2.1 = true
theorem okX_0 : okX 0 = false := by decide +kernel
section IT9
variable {M C : Nat → Nat}
theorem itr9_add : ∀ (a b : Nat) (σ : Sf), itr9 M C b (itr9 M C a σ) = itr9 M C (a + b) σ := by
  intro a
  induction a with
  | zero => intro b σ; rw [Nat.zero_add]; rfl
  | succ a ih =>
    intro b σ
    rw [show a + 1 + b = (a + b) + 1 by omega]
    show itr9 M C b (itr9 M C a (stp9 M C σ)) = itr9 M C (a + b) (stp9 M C σ)
    exact ih b _
theorem dbl9_eq : ∀ (k : Nat) (σ : Sf), dbl9 (M 0) (M 1) (M 2) (C 0) (C 1) (C 2) k σ = itr9 M C (2 ^ k) σ := by
  intro k
  induction k with
  | zero => intro σ; rfl
  | succ k ih =>
    intro σ
    have e : dbl9 (M 0) (M 1) (M 2) (C 0) (C 1) (C 2) (k + 1) σ = dbl9 (M 0) (M 1) (M 2) (C 0) (C 1) (C 2) k (dbl9 (M 0) (M 1) (M 2) (C 0) (C 1) (C 2) k σ) := rfl
    rw [e, ih, ih, itr9_add, Nat.pow_succ, Nat.mul_two]
theorem itr9_dn (X : Nat) : ∀ k, itr9 M C k (dn9 X) = dn9 X := by
  intro k
  induction k with
  | zero => rfl
  | succ k ih =>
    have e : stp9 M C (dn9 X) = dn9 X := rfl
    show itr9 M C k (stp9 M C (dn9 X)) = _
    rw [e]; exact ih
theorem fin9_0 {k : Nat} (h : fin9 (itr9 M C k (dn9 0))) : False := by
  rw [itr9_dn] at h
  have h2 : okX 0 = true := h.2
  rw [okX_0] at h2
  exact absurd h2 (by decide)
theorem fin9_X {k X : Nat} (h : fin9 (itr9 M C k (dn9 X))) : okX X = true := by
  rw [itr9_dn] at h
  exact h.2
/-- the next tile -/
theorem fin9_next {k n t B0 B1 B2 V X te c : Nat} (T : Nat → Nat) (h0 : T 0 = B0) (h1 : T 1 = B1) (h2 : T 2 = B2) (hn : 0 < n) (h : fin9 (itr9 M C k (n, t, B0, B1, B2, V, X, te, c))) : ∃ k', k = k' + 1 ∧ fin9 (itr9 M C k' (fq M C 0 n t (fl 96 V t) T V X te c)) := by
  cases k with
  | zero => have : n = 0 := h.1; omega
  | succ k =>
    refine ⟨k, rfl, ?_⟩
    have h' : fin9 (itr9 M C k (ft (M 0) (M 1) (M 2) (C 0) (C 1) (C 2) n t B0 B1 B2 V X te c)) := h
    obtain ⟨n', e⟩ : ∃ n', n = n' + 1 := ⟨n - 1, by omega⟩
    have e2 : ft (M 0) (M 1) (M 2) (C 0) (C 1) (C 2) n t B0 B1 B2 V X te c = f0 (M 0) (M 1) (M 2) (C 0) (C 1) (C 2) n t (fl 96 V t) B0 B1 B2 V X te c := by
      unfold ft
      rw [n_rec, if_neg (by omega), nst_eq]
      rfl
    rw [e2, ← h0, ← h1, ← h2] at h'
    exact h'
end IT9
/-! walks end somewhere -/
section KE
variable {β : Type}
theorem kd_end (no : β) (sc : Nat → Nat → Nat → β) : ∀ (k t Y Y' : Nat), kd no k t Y Y' sc = no ∨ ∃ z Y1 Y2, kd no k t Y Y' sc = sc z Y1 Y2 := by
  intro k
  induction k with
  | zero => intro t Y Y'; exact Or.inr ⟨t, Y, Y', rfl⟩
  | succ k ih =>
    intro t Y Y'
    have e1 : kd no (k + 1) t Y Y' sc = Nat.rec (motive := fun _ => β) no (fun u _ => Bool.rec (motive := fun _ => β) no (kd no k u Y' Y sc) (Nat.ble (Nat.succ u) t)) (fl 12 Y t) := rfl
    rw [e1, n_rec, b_rec]
    by_cases c : fl 12 Y t = 0
    · rw [if_pos c]; exact Or.inl rfl
    · rw [if_neg c]
      by_cases c2 : fl 12 Y t - 1 < t
      · rw [if_pos c2]; exact ih _ _ _
      · rw [if_neg c2]; exact Or.inl rfl
theorem ku_end (er0 no : β) (sc : Nat → β) : ∀ (k t Y Y' : Nat), ku er0 no k t Y Y' sc = er0 ∨ ku er0 no k t Y Y' sc = no ∨ ∃ F, ku er0 no k t Y Y' sc = sc F := by
  intro k
  induction k with
  | zero => intro t Y Y'; exact Or.inr (Or.inr ⟨t, rfl⟩)
  | succ k ih =>
    intro t Y Y'
    have e1 : ku er0 no (k + 1) t Y Y' sc = Nat.rec (motive := fun _ => β) no (fun u _ => Bool.rec (motive := fun _ => β) er0 (ku er0 no k u Y' Y sc) (Nat.ble (Nat.succ t) u)) (fl 12 Y t) := rfl
    rw [e1, n_rec, b_rec]
    by_cases c : fl 12 Y t = 0
    · rw [if_pos c]; exact Or.inr (Or.inl rfl)
    · rw [if_neg c]
      by_cases c2 : t < fl 12 Y t - 1
      · rw [if_pos c2]; exact ih _ _ _
      · rw [if_neg c2]; exact Or.inl rfl
theorem kj3_end (er0 : β) {n t Ba B m : Nat} (k : Nat → β) : kj3 er0 n t Ba B m k = er0 ∨ ∃ B', kj3 er0 n t Ba B m k = k B' := by
  have fin : ∀ F, Bool.rec (motive := fun _ => β) er0 (Bool.rec (motive := fun _ => β) er0 (Nat.rec (motive := fun _ => β) (nst (pj B F n) k) (fun _ _ => er0) (Nat.mod (Nat.shiftRight B (Nat.mul 12 F)) 4096)) (Nat.ble (Nat.succ F) n)) (Nat.ble (Nat.succ t) F) = er0 ∨ ∃ B', Bool.rec (motive := fun _ => β) er0 (Bool.rec (motive := fun _ => β) er0 (Nat.rec (motive := fun _ => β) (nst (pj B F n) k) (fun _ _ => er0) (Nat.mod (Nat.shiftRight B (Nat.mul 12 F)) 4096)) (Nat.ble (Nat.succ F) n)) (Nat.ble (Nat.succ t) F) = k B' := fun F => by
    rw [b_rec, b_rec, n_rec]
    by_cases c1 : t < F
    · rw [if_pos c1]
      by_cases c2 : F < n
      · rw [if_pos c2]
        by_cases c3 : Nat.mod (Nat.shiftRight B (Nat.mul 12 F)) 4096 = 0
        · rw [if_pos c3]; exact Or.inr ⟨pj B F n, rfl⟩
        · rw [if_neg c3]; exact Or.inl rfl
      · rw [if_neg c2]; exact Or.inl rfl
    · rw [if_neg c1]; exact Or.inl rfl
  unfold kj3 kj
  rw [n_rec]
  by_cases c : m = 0
  · rw [if_pos c]; exact Or.inr ⟨B, rfl⟩
  · rw [if_neg c]
    rcases kd_end (k B) (fun z Yz Yz' => ku er0 (k B) (m - 1) z Yz Yz' (fun F => Bool.rec (motive := fun _ => β) er0 (Bool.rec (motive := fun _ => β) er0 (Nat.rec (motive := fun _ => β) (nst (pj B F n) k) (fun _ _ => er0) (Nat.mod (Nat.shiftRight B (Nat.mul 12 F)) 4096)) (Nat.ble (Nat.succ F) n)) (Nat.ble (Nat.succ t) F))) (m - 1) t B Ba with e | ⟨z, Y1, Y2, e⟩
    · rw [e]; exact Or.inr ⟨B, rfl⟩
    · rw [e]
      rcases ku_end er0 (k B) (fun F => Bool.rec (motive := fun _ => β) er0 (Bool.rec (motive := fun _ => β) er0 (Nat.rec (motive := fun _ => β) (nst (pj B F n) k) (fun _ _ => er0) (Nat.mod (Nat.shiftRight B (Nat.mul 12 F)) 4096)) (Nat.ble (Nat.succ F) n)) (Nat.ble (Nat.succ t) F)) (m - 1) z Y1 Y2 with e2 | e2 | ⟨F, e2⟩
      · exact Or.inl e2
      · exact Or.inr ⟨B, e2⟩
      · rcases fin F with e3 | ⟨B', e3⟩
        · exact Or.inl (e2.trans e3)
        · exact Or.inr ⟨B', e2.trans e3⟩
end KE
/-- what is known of the vectors of a run that goes through -/
def XE (M C : Nat → Nat) (k s : Nat) : Prop := ∀ (n t r : Nat) (T : Nat → Nat) (V X te c : Nat), fin9 (itr9 M C k (fq M C s n t r T V X te c)) → 0 < n → n ≤ 2000 → ∃ u, okX (pr u X) = true ∧ u.length + n = 2001 ∧ ∀ a, a ∈ u → a < 4294967296
theorem XE_sd {M C : Nat → Nat} {k s : Nat} (hs : s < 3) (h : XE M C k (s + 1)) : XE M C k s := by
  intro n t r T V X te c hf hn0 hn
  rw [fq_sd hs] at hf
  by_cases c0 : fl 12 (T s) t = 0
  · have one : ∀ u, okX (pr u (hs3 (tv3 (32 * s) (32 * ((s + 1) % 3)) (32 * ((s + 3 - 1) % 3)) (C s) (C ((s + 3 - 1) % 3)) r) + 17179869184 * X)) = true → u.length + 1 + n = 2001 → (∀ a, a ∈ u → a < 4294967296) → ∃ u, okX (pr u X) = true ∧ u.length + n = 2001 ∧ ∀ a, a ∈ u → a < 4294967296 := fun u u1 u2 u3 => by
      refine ⟨u ++ [hs3 (tv3 (32 * s) (32 * ((s + 1) % 3)) (32 * ((s + 3 - 1) % 3)) (C s) (C ((s + 3 - 1) % 3)) r)], ?_, by rw [List.length_append, List.length_singleton]; omega, fun a ha => ?_⟩
      · rw [← pr_app]; exact u1
      · rcases List.mem_append.mp ha with c | c
        · exact u3 a c
        · rw [List.mem_singleton.mp c]; exact hs3_lt _
    by_cases c1 : n < 2000
    · rw [sd_new c0 c1] at hf
      rcases kj3_end (dn9 0) (n := n) (t := t) (Ba := pj (T s) t n) (B := T ((s + 1) % 3)) (m := M s) (fun Bb3 => kj3 (dn9 0) n t (pj (T s) t n) (T ((s + 3 - 1) % 3)) (M ((s + 3 - 1) % 3)) fun Bc3 => fq M C (s + 1) (n + 1) t r (Tu s (pj (T s) t n) Bb3 Bc3) (fp 96 V (tv3 (32 * s) (32 * ((s + 1) % 3)) (32 * ((s + 3 - 1) % 3)) (C s) (C ((s + 3 - 1) % 3)) r) n) (hs3 (tv3 (32 * s) (32 * ((s + 1) % 3)) (32 * ((s + 3 - 1) % 3)) (C s) (C ((s + 3 - 1) % 3)) r) + 17179869184 * X) te c) with e | ⟨B', e⟩
      · rw [e] at hf; exact (fin9_0 hf).elim
      · rw [e] at hf
        rcases kj3_end (dn9 0) (n := n) (t := t) (Ba := pj (T s) t n) (B := T ((s + 3 - 1) % 3)) (m := M ((s + 3 - 1) % 3)) (fun Bc3 => fq M C (s + 1) (n + 1) t r (Tu s (pj (T s) t n) B' Bc3) (fp 96 V (tv3 (32 * s) (32 * ((s + 1) % 3)) (32 * ((s + 3 - 1) % 3)) (C s) (C ((s + 3 - 1) % 3)) r) n) (hs3 (tv3 (32 * s) (32 * ((s + 1) % 3)) (32 * ((s + 3 - 1) % 3)) (C s) (C ((s + 3 - 1) % 3)) r) + 17179869184 * X) te c) with e2 | ⟨B2, e2⟩
        · rw [e2] at hf; exact (fin9_0 hf).elim
        · rw [e2] at hf
          obtain ⟨u, u1, u2, u3⟩ := h _ _ _ _ _ _ _ _ hf (by omega) (by omega)
          exact one u u1 (by omega) u3
    · rw [sd_full c0 c1] at hf
      exact one [] (fin9_X hf) (by rw [List.length_nil]; omega) (fun a ha => absurd ha List.not_mem_nil)
  · rw [sd_old c0] at hf
    exact h _ _ _ _ _ _ _ _ hf hn0 hn
theorem XE_all {M C : Nat → Nat} : ∀ (k s : Nat), s ≤ 3 → XE M C k s := by
  intro k
  induction k with
  | zero =>
    have x3 : XE M C 0 3 := by
      intro n t r T V X te c hf hn0 hn
      have hf' : fin9 (itr9 M C 0 (f3 n t (T 0) (T 1) (T 2) V X te c)) := hf
      rcases f3_cases (T := T) (n := n) (t := t) (V := V) (X := X) (te := te) (c := c) with e | ⟨_, _, e⟩ | ⟨_, _, _, e⟩
      · rw [e] at hf'; exact (fin9_0 hf').elim
      · rw [e] at hf'
        obtain ⟨k', k1, _⟩ := fin9_next T rfl rfl rfl hn0 hf'
        omega
      · rw [e] at hf'
        obtain ⟨k', k1, _⟩ := fin9_next T rfl rfl rfl hn0 hf'
        omega
    intro s hs
    have x2 := XE_sd (s := 2) (by decide) x3
    have x1 := XE_sd (s := 1) (by decide) x2
    have x0 := XE_sd (s := 0) (by decide) x1
    have : s = 0 ∨ s = 1 ∨ s = 2 ∨ s = 3 := by omega
    rcases this with e | e | e | e <;> subst e
    · exact x0
    · exact x1
    · exact x2
    · exact x3
  | succ k ih =>
    have x3 : XE M C (k + 1) 3 := by
      intro n t r T V X te c hf hn0 hn
      have hf' : fin9 (itr9 M C (k + 1) (f3 n t (T 0) (T 1) (T 2) V X te c)) := hf
      rcases f3_cases (T := T) (n := n) (t := t) (V := V) (X := X) (te := te) (c := c) with e | ⟨_, _, e⟩ | ⟨_, _, _, e⟩
      · rw [e] at hf'; exact (fin9_0 hf').elim
      · rw [e] at hf'
        obtain ⟨k', k1, k2⟩ := fin9_next T rfl rfl rfl hn0 hf'
        have ek : k' = k := by omega
        subst ek
        exact ih 0 (by decide) _ _ _ _ _ _ _ _ k2 hn0 hn
      · rw [e] at hf'
        obtain ⟨k', k1, k2⟩ := fin9_next T rfl rfl rfl hn0 hf'
        have ek : k' = k := by omega
        subst ek
        exact ih 0 (by decide) _ _ _ _ _ _ _ _ k2 hn0 hn
    intro s hs
    have x2 := XE_sd (s := 2) (by decide) x3
    have x1 := XE_sd (s := 1) (by decide) x2
    have x0 := XE_sd (s := 0) (by decide) x1
    have : s = 0 ∨ s = 1 ∨ s = 2 ∨ s = 3 := by omega
    rcases this with e | e | e | e <;> subst e
    · exact x0
    · exact x1
    · exact x2
    · exact x3
