/-! ===== closed boards: how many are unlike, two ways of counting ===== -/
theorem or_sum_add {α : Type} (f g : α → Nat) : ∀ (l : List α), (l.map (fun a => f a + g a)).sum = (l.map f).sum + (l.map g).sum := by
  intro l
  induction l with
  | nil => rfl
  | cons a l ih =>
    rw [List.map_cons, List.map_cons, List.map_cons, List.sum_cons, List.sum_cons, List.sum_cons, ih]
    omega
theorem or_sum_zero {α : Type} {f : α → Nat} : ∀ {l : List α}, (∀ a, a ∈ l → f a = 0) → (l.map f).sum = 0 := by
  intro l
  induction l with
  | nil => intro _; rfl
  | cons a l ih =>
    intro h
    rw [List.map_cons, List.sum_cons, h a (List.mem_cons_self ..), ih (fun b hb => h b (List.mem_cons_of_mem _ hb))]
theorem or_sum_congr {α : Type} {f g : α → Nat} : ∀ {l : List α}, (∀ a, a ∈ l → f a = g a) → (l.map f).sum = (l.map g).sum := by
  intro l
  induction l with
  | nil => intro _; rfl
  | cons a l ih =>
    intro h
    rw [List.map_cons, List.map_cons, List.sum_cons, List.sum_cons, h a (List.mem_cons_self ..), ih (fun b hb => h b (List.mem_cons_of_mem _ hb))]
theorem or_swap {α β : Type} (F : α → β → Nat) (m : List β) : ∀ (l : List α), (l.map (fun a => (m.map (fun b => F a b)).sum)).sum = (m.map (fun b => (l.map (fun a => F a b)).sum)).sum := by
  intro l
  induction l with
  | nil => exact (or_sum_zero (fun _ _ => rfl)).symm
  | cons a l ih =>
    rw [List.map_cons, List.sum_cons, ih, ← or_sum_add]
    exact or_sum_congr (fun b _ => by rw [List.map_cons, List.sum_cons])
/-- one in the list alone counts -/
theorem or_one {α : Type} {f : α → Nat} {x : α} : ∀ {l : List α}, l.Nodup → x ∈ l → (∀ a, a ∈ l → a ≠ x → f a = 0) → (l.map f).sum = f x := by
  intro l
  induction l with
  | nil => intro _ h; exact absurd h List.not_mem_nil
  | cons a l ih =>
    intro hd hx h
    have hd' := List.nodup_cons.mp hd
    rw [List.map_cons, List.sum_cons]
    by_cases e : a = x
    · subst e
      rw [or_sum_zero (fun b hb => h b (List.mem_cons_of_mem _ hb) (fun q => hd'.1 (by rw [← q]; exact hb))), Nat.add_zero]
    · rw [h a (List.mem_cons_self ..) e, Nat.zero_add]
      rcases List.mem_cons.mp hx with q | q
      · exact absurd q.symm e
      · exact ih hd'.2 q (fun b hb hne => h b (List.mem_cons_of_mem _ hb) hne)
/-- how many y below n lead from a to c -/
def or_ct (R : List Nat → Nat → List Nat) (n : Nat) (a c : List Nat) : Nat := ((List.range n).map (fun y => if R a y = c then 1 else 0)).sum
theorem or_perm {n : Nat} {ψ : Nat → Nat} (h1 : ∀ k, k < n → ψ k < n) (h2 : ∀ j k, j < n → k < n → ψ j = ψ k → j = k) (f : Nat → Nat) : ((List.range n).map (fun k => f (ψ k))).sum = ((List.range n).map f).sum := by
  have e : ∀ k, k < n → f (ψ k) = ((List.range n).map (fun y => if ψ k = y then f y else 0)).sum := fun k hk => by
    rw [or_one (x := ψ k) List.nodup_range (List.mem_range.mpr (h1 k hk)) (fun a _ hne => if_neg (fun q => hne q.symm)), if_pos rfl]
  rw [or_sum_congr (fun k hk => e k (List.mem_range.mp hk)), or_swap]
  refine or_sum_congr (fun y hy => ?_)
  -- y is led to by just one
  have hy' := List.mem_range.mp hy
  have surj : ∃ k, k < n ∧ ψ k = y := Classical.byContradiction (fun q => by
    have hnd : ((List.range n).map ψ ++ [y]).Nodup := by
      refine List.nodup_append.mpr ⟨?_, List.nodup_cons.mpr ⟨List.not_mem_nil, List.nodup_nil⟩, fun a ha b hb => ?_⟩
      · refine List.pairwise_map.mpr (List.Pairwise.imp_of_mem ?_ List.nodup_range)
        intro a b ha hb hne hψ
        exact hne (h2 a b (List.mem_range.mp ha) (List.mem_range.mp hb) hψ)
      · obtain ⟨k, hk, e'⟩ := List.mem_map.mp ha
        rw [List.mem_singleton.mp hb, ← e']
        exact fun z => q ⟨k, List.mem_range.mp hk, z⟩
    have := cb_nd_le n _ hnd (fun a ha => by
      rcases List.mem_append.mp ha with q' | q'
      · obtain ⟨k, hk, e'⟩ := List.mem_map.mp q'
        rw [← e']; exact h1 k (List.mem_range.mp hk)
      · rw [List.mem_singleton.mp q']; exact hy')
    rw [List.length_append, List.length_map, List.length_range] at this
    have : n + 1 ≤ n := this
    omega)
  obtain ⟨k, hk, e'⟩ := surj
  rw [or_one (x := k) List.nodup_range (List.mem_range.mpr hk) (fun a ha hne => if_neg (fun q => hne (h2 a k (List.mem_range.mp ha) hk (q.trans e'.symm)))), if_pos e']
section OR
variable {R : List Nat → Nat → List Nat} {n : Nat} {C : List (List Nat)} {lt : List Nat → List Nat → Prop}
/-- the least that is led to -/
theorem or_min (hlt : ∀ a b c, a ∈ C → b ∈ C → c ∈ C → lt a b → lt b c → lt a c) (hir : ∀ a, a ∈ C → ¬ lt a a) : ∀ (m : List (List Nat)), m ≠ [] → (∀ a, a ∈ m → a ∈ C) → ∃ x, x ∈ m ∧ ∀ a, a ∈ m → ¬ lt a x := by
  intro m
  induction m with
  | nil => intro h; exact absurd rfl h
  | cons a m ih =>
    intro _ hm
    have haC := hm a (List.mem_cons_self ..)
    by_cases e : m = []
    · subst e
      refine ⟨a, List.mem_cons_self .., fun b hb => ?_⟩
      rw [List.mem_singleton.mp hb]
      exact hir a haC
    · obtain ⟨x, hx, h⟩ := ih e (fun b hb => hm b (List.mem_cons_of_mem _ hb))
      have hxC := hm x (List.mem_cons_of_mem _ hx)
      by_cases q : lt a x
      · refine ⟨a, List.mem_cons_self .., fun b hb => ?_⟩
        rcases List.mem_cons.mp hb with rfl | hb
        · exact hir b haC
        · exact fun z => h b hb (hlt b a x (hm b (List.mem_cons_of_mem _ hb)) haC hxC z q)
      · refine ⟨x, List.mem_cons_of_mem _ hx, fun b hb => ?_⟩
        rcases List.mem_cons.mp hb with rfl | hb
        · exact q
        · exact h b hb
theorem or_count (hn : 0 < n) (hC : C.Nodup) (hR : ∀ a x, a ∈ C → x < n → R a x ∈ C)
    (hψ : ∀ a x, a ∈ C → x < n → ∃ ψ : Nat → Nat, (∀ k, k < n → ψ k < n) ∧ (∀ j k, j < n → k < n → ψ j = ψ k → j = k) ∧ ψ 0 = x ∧ ∀ k, k < n → R (R a x) k = R a (ψ k))
    (htr : ∀ a b c, a ∈ C → b ∈ C → c ∈ C → lt a b → lt b c → lt a c) (hir : ∀ a, a ∈ C → ¬ lt a a) (hto : ∀ a b, a ∈ C → b ∈ C → lt a b ∨ a = b ∨ lt b a)
    {lit : List Nat → Bool} (hlit : ∀ a, a ∈ C → (lit a = true ↔ (∀ x, x < n → ¬ lt (R a x) a) ∧ ∃ x, x < n ∧ R a x = a)) :
    (C.map (fun a => if R a 0 = a then or_ct R n a a else 0)).sum = n * C.countP lit := by
  -- surjective, too
  have sur : ∀ {ψ : Nat → Nat}, (∀ k, k < n → ψ k < n) → (∀ j k, j < n → k < n → ψ j = ψ k → j = k) → ∀ y, y < n → ∃ k, k < n ∧ ψ k = y := by
    intro ψ h1 h2 y hy
    have h := or_perm (n := n) h1 h2 (fun z => if z = y then 1 else 0)
    rw [or_one (f := fun z => if z = y then 1 else 0) (x := y) List.nodup_range (List.mem_range.mpr hy) (fun a _ hne => if_neg hne), if_pos rfl] at h
    refine Classical.byContradiction (fun q => ?_)
    rw [or_sum_zero (fun k hk => if_neg (fun z => q ⟨k, List.mem_range.mp hk, z⟩))] at h
    exact absurd h (by decide)
  -- what is led to leads to the same
  have orb : ∀ a x y, a ∈ C → x < n → y < n → ∃ k, k < n ∧ R (R a x) k = R a y := fun a x y ha hx hy => by
    obtain ⟨ψ, h1, h2, -, h4⟩ := hψ a x ha hx
    obtain ⟨k, hk, e⟩ := sur h1 h2 y hy
    exact ⟨k, hk, by rw [h4 k hk, e]⟩
  have orb' : ∀ a x k, a ∈ C → x < n → k < n → ∃ y, y < n ∧ R (R a x) k = R a y := fun a x k ha hx hk => by
    obtain ⟨ψ, h1, -, -, h4⟩ := hψ a x ha hx
    exact ⟨ψ k, h1 k hk, h4 k hk⟩
  have met : ∀ a x, a ∈ C → x < n → R (R a x) 0 = R a x := fun a x ha hx => by
    obtain ⟨ψ, -, -, h3, h4⟩ := hψ a x ha hx
    rw [h4 0 hn, h3]
  -- each met one has a least one, which leads to it
  have least : ∀ a, a ∈ C → R a 0 = a → ∃ μ z, μ ∈ C ∧ lit μ = true ∧ z < n ∧ R μ z = a := fun a ha hm => by
    obtain ⟨μ, h1, h2⟩ := or_min (C := C) htr hir ((List.range n).map (R a)) (by
      intro q
      have := congrArg List.length q
      rw [List.length_map, List.length_range] at this
      have : n = 0 := this
      omega) (fun b hb => by
      obtain ⟨k, hk, e⟩ := List.mem_map.mp hb
      rw [← e]; exact hR a k ha (List.mem_range.mp hk))
    obtain ⟨x, hx, e⟩ := List.mem_map.mp h1
    have hx := List.mem_range.mp hx
    have hμC : μ ∈ C := by rw [← e]; exact hR a x ha hx
    obtain ⟨z, hz, ez⟩ := orb a x 0 ha hx hn
    rw [e, hm] at ez
    refine ⟨μ, z, hμC, (hlit μ hμC).mpr ⟨fun k hk => ?_, ?_⟩, hz, ez⟩
    · rw [← e]
      obtain ⟨y, hy, ey⟩ := orb' a x k ha hx hk
      rw [ey, e]
      exact h2 _ (List.mem_map.mpr ⟨y, List.mem_range.mpr hy, rfl⟩)
    · obtain ⟨k, hk, ek⟩ := orb a x x ha hx hx
      rw [e] at ek
      exact ⟨k, hk, ek⟩
  -- two least ones of one kind are one
  have uniq : ∀ μ ν z w, μ ∈ C → ν ∈ C → lit μ = true → lit ν = true → z < n → w < n → R μ z = R ν w → μ = ν := fun μ ν z w hμ hν l1 l2 hz hw e => by
    obtain ⟨m1, k0, hk0, ek0⟩ := (hlit μ hμ).mp l1
    obtain ⟨m2, j0, hj0, ej0⟩ := (hlit ν hν).mp l2
    -- ν is led to from μ
    have a1 : ∃ y, y < n ∧ ν = R μ y := by
      obtain ⟨k, hk, ek⟩ := orb ν w j0 hν hw hj0
      rw [← e, ej0] at ek
      obtain ⟨y, hy, ey⟩ := orb' μ z k hμ hz hk
      exact ⟨y, hy, ek.symm.trans ey⟩
    have a2 : ∃ y, y < n ∧ μ = R ν y := by
      obtain ⟨k, hk, ek⟩ := orb μ z k0 hμ hz hk0
      rw [e, ek0] at ek
      obtain ⟨y, hy, ey⟩ := orb' ν w k hν hw hk
      exact ⟨y, hy, ek.symm.trans ey⟩
    obtain ⟨y, hy, ey⟩ := a1
    obtain ⟨y', hy', ey'⟩ := a2
    rcases hto μ ν hμ hν with q | q | q
    · have := m2 y' hy'
      rw [← ey'] at this
      exact absurd q this
    · exact q
    · have := m1 y hy
      rw [← ey] at this
      exact absurd q this
  have step : ∀ a, a ∈ C → (if R a 0 = a then or_ct R n a a else 0) = (C.map (fun μ => if lit μ then or_ct R n μ a else 0)).sum := fun a ha => by
    by_cases hm : R a 0 = a
    · rw [if_pos hm]
      obtain ⟨μ, z, hμ, hl, hz, ez⟩ := least a ha hm
      rw [or_one (x := μ) hC hμ (fun ν hν hne => ?_), if_pos hl]
      · -- counted from the least one
        obtain ⟨ψ, h1, h2, -, h4⟩ := hψ μ z hμ hz
        rw [ez] at h4
        show ((List.range n).map (fun y => if R a y = a then 1 else 0)).sum = ((List.range n).map (fun y => if R μ y = a then 1 else 0)).sum
        rw [← or_perm h1 h2 (fun y => if R μ y = a then 1 else 0)]
        exact or_sum_congr (fun k hk => by rw [h4 k (List.mem_range.mp hk)])
      · by_cases hl2 : lit ν = true
        · rw [if_pos hl2]
          refine or_sum_zero (fun y hy => if_neg (fun q => hne ?_))
          exact uniq ν μ y z hν hμ hl2 hl (List.mem_range.mp hy) hz (q.trans ez.symm)
        · rw [if_neg hl2]
    · rw [if_neg hm]
      refine (or_sum_zero (fun μ hμ => ?_)).symm
      by_cases hl : lit μ = true
      · rw [if_pos hl]
        refine or_sum_zero (fun y hy => if_neg (fun q => hm ?_))
        rw [← q]
        exact met μ y hμ (List.mem_range.mp hy)
      · rw [if_neg hl]
  rw [or_sum_congr step, or_swap]
  have inner : ∀ μ, μ ∈ C → (C.map (fun a => if lit μ then or_ct R n μ a else 0)).sum = if lit μ then n else 0 := fun μ hμ => by
    by_cases hl : lit μ = true
    · rw [if_pos hl]
      rw [or_sum_congr (fun a _ => if_pos hl)]
      show (C.map (fun a => ((List.range n).map (fun y => if R μ y = a then 1 else 0)).sum)).sum = n
      rw [or_swap, or_sum_congr (fun y hy => or_one (f := fun a => if R μ y = a then 1 else 0) (x := R μ y) hC (hR μ y hμ (List.mem_range.mp hy)) (fun a _ hne => if_neg (fun q => hne q.symm)))]
      rw [or_sum_congr (g := fun _ => 1) (fun y _ => if_pos rfl), cb_sum_sm, sm_one]
    · rw [if_neg hl, or_sum_zero (fun a _ => if_neg hl)]
  rw [or_sum_congr inner]
  clear step least uniq orb orb' met sur inner hlit hto hir htr hψ hR hC
  induction C with
  | nil => rfl
  | cons a C ih =>
    rw [List.map_cons, List.sum_cons, ih]
    by_cases hl : lit a = true
    · rw [if_pos hl, List.countP_cons_of_pos hl, Nat.mul_succ, Nat.add_comm]
    · rw [if_neg hl, List.countP_cons_of_neg hl, Nat.zero_add]
end OR
