/-! ===== a row that rises has no two alike ===== -/
theorem ofD_range (b : Nat) (f : Nat → Nat) (N : Nat) (h : ∀ i, i < N → f i < 2 ^ b) : ∀ i c, c < b → (ofD b ((List.range N).map f)).testBit (b * i + c) = (decide (i < N) && (f i).testBit c) := by
  induction N generalizing f with
  | zero =>
    intro i c _
    show (0 : Nat).testBit _ = _
    rw [Nat.zero_testBit, decide_eq_false (Nat.not_lt_zero i), Bool.false_and]
  | succ N ih =>
    intro i c hc
    rw [List.range_succ_eq_map, List.map_cons, List.map_map]
    show (f 0 + 2 ^ b * ofD b ((List.range N).map (f ∘ Nat.succ))).testBit (b * i + c) = _
    rw [bit_split (h 0 (by omega))]
    cases i with
    | zero => rw [Nat.mul_zero, Nat.zero_add, if_pos hc, decide_eq_true (show 0 < N + 1 by omega), Bool.true_and]
    | succ i =>
      rw [if_neg (by rw [Nat.mul_succ]; omega), show b * (i + 1) + c - b = b * i + c by rw [Nat.mul_succ]; omega, ih (f ∘ Nat.succ) (fun i hi => h (i + 1) (by omega)) i c hc]
      by_cases e : i < N
      · rw [decide_eq_true e, decide_eq_true (show i + 1 < N + 1 by omega)]; rfl
      · rw [decide_eq_false e, decide_eq_false (show ¬ i + 1 < N + 1 by omega), Bool.false_and, Bool.false_and]
theorem ofD_inj {α : Type} {b : Nat} {f g : α → Nat} : ∀ {l : List α}, (∀ w, w ∈ l → f w < 2 ^ b) → (∀ w, w ∈ l → g w < 2 ^ b) → ofD b (l.map f) = ofD b (l.map g) → ∀ w, w ∈ l → f w = g w := by
  intro l
  induction l with
  | nil => intro _ _ _ w hw; exact absurd hw List.not_mem_nil
  | cons x l ih =>
    intro h h' e w hw
    have e' : f x + 2 ^ b * ofD b (l.map f) = g x + 2 ^ b * ofD b (l.map g) := e
    have a1 := h x List.mem_cons_self
    have a2 := h' x List.mem_cons_self
    have p := Nat.two_pow_pos b
    have m : f x = g x := by
      have := congrArg (· % 2 ^ b) e'
      simp only [Nat.add_mul_mod_self_left] at this
      rw [Nat.mod_eq_of_lt a1, Nat.mod_eq_of_lt a2] at this
      exact this
    rcases List.mem_cons.mp hw with c | c
    · rw [c]; exact m
    · refine ih (fun w hw => h w (List.mem_cons_of_mem _ hw)) (fun w hw => h' w (List.mem_cons_of_mem _ hw)) ?_ w c
      rw [m] at e'
      exact Nat.eq_of_mul_eq_mul_left p (Nat.add_left_cancel e')
theorem dg_lt (X i : Nat) : dg X i < 4294967296 := Nat.mod_lt _ (by decide)
/-- the numbers in their places, all else left out -/
theorem dg_mask (X n : Nat) : X &&& 4294967295 * rep 34 n = ofD 34 ((List.range n).map (dg X)) := by
  apply Nat.eq_of_testBit_eq
  intro y
  have e := Nat.div_add_mod y 34
  have hc := Nat.mod_lt y (show 0 < 34 by decide)
  rw [← e, Nat.testBit_and, ofD_range 34 (dg X) n (fun i _ => Nat.lt_of_lt_of_le (dg_lt X i) (by decide)) _ _ hc, dg_bit, mul_spread (by decide) (by decide) (rep 34 n) _ _ (fun y hy => by
    rw [rep_bit (by decide), Bool.and_eq_true, decide_eq_true_iff] at hy
    exact hy.1) hc, rep_bit (by decide), show (4294967295 : Nat) = 2 ^ 32 - 1 from rfl, Nat.testBit_two_pow_sub_one, Nat.mul_mod_right, decide_eq_true rfl, Bool.true_and, Nat.mul_div_cancel_left _ (show 0 < 34 by decide)]
  cases X.testBit (34 * (y / 34) + y % 34) <;> cases decide (y % 34 < 32) <;> cases decide (y / 34 < n) <;> rfl
def sw_up (X n : Nat) : Bool := Nat.beq (((((X >>> 34) &&& 4294967295 * rep 34 n) + 4294967296 * rep 34 n) - ((X &&& 4294967295 * rep 34 n) + rep 34 n)) &&& 4294967296 * rep 34 n) (4294967296 * rep 34 n)
theorem sw_up_lt {X n : Nat} (h : sw_up X n = true) : ∀ i, i < n → dg X i < dg X (i + 1) := by
  have h' := Nat.eq_of_beq_eq_true h
  have d1 : ∀ i, dg (X >>> 34) i = dg X (i + 1) := fun i => by
    unfold dg
    rw [← Nat.shiftRight_add, show 34 + 34 * i = 34 * (i + 1) by omega]
  have c1 : rep 34 n = ofD 34 ((List.range n).map (fun _ => 1)) := by rw [ofD_const (by decide), Nat.one_mul, List.length_range]
  have c2 : 4294967296 * rep 34 n = ofD 34 ((List.range n).map (fun _ => 4294967296)) := by rw [ofD_const (by decide), List.length_range]
  rw [dg_mask, dg_mask, c2, ofD_add, c1, ofD_add, ofD_sub _ _ _ (fun i _ => by have := dg_lt X i; omega), ofD_and _ _ _ (fun i _ => by have := dg_lt (X >>> 34) i; omega) (fun i _ => by decide)] at h'
  intro i hi
  have q := ofD_inj (fun i _ => Nat.lt_of_le_of_lt Nat.and_le_right (by decide)) (fun i _ => by decide) h' i (List.mem_range.mpr hi)
  have q' : (dg (X >>> 34) i + 4294967296 - (dg X i + 1)) &&& 4294967296 = 4294967296 := q
  rw [d1] at q'
  have t : (dg X (i + 1) + 4294967296 - (dg X i + 1)).testBit 32 = true := by
    have w := congrArg (fun z => z.testBit 32) q'
    have w' : ((dg X (i + 1) + 4294967296 - (dg X i + 1)) &&& 4294967296).testBit 32 = (4294967296 : Nat).testBit 32 := w
    rw [Nat.testBit_and, show (4294967296 : Nat).testBit 32 = true from rfl, Bool.and_true] at w'
    exact w'
  have := Nat.ge_two_pow_of_testBit t
  have l := dg_lt X (i + 1)
  omega
theorem sw_up_inj {X n : Nat} (h : sw_up X n = true) : ∀ i j, i < n + 1 → j < n + 1 → dg X i = dg X j → i = j := by
  have lt := sw_up_lt h
  have mono : ∀ d i, i + d < n + 1 → 0 < d → dg X i < dg X (i + d) := by
    intro d
    induction d with
    | zero => intro i _ h; omega
    | succ d ih =>
      intro i hi _
      have l1 := lt (i + d) (by omega)
      by_cases d0 : d = 0
      · subst d0; exact l1
      · have := ih i (by omega) (by omega)
        exact Nat.lt_trans this l1
  intro i j hi hj e
  by_cases c : i = j
  · exact c
  · by_cases l : i < j
    · have := mono (j - i) i (by omega) (by omega)
      rw [show i + (j - i) = j by omega] at this; omega
    · have := mono (i - j) j (by omega) (by omega)
      rw [show j + (i - j) = i by omega] at this; omega
/-- stages one behind another, then the look whether it rises; what is swapped is anyone's choice -/
def sw_y (X k one D : Nat) : Nat := Nat.xor (Nat.shiftRight (Nat.sub (Nat.add (Nat.land X (Nat.mul 4294967295 one)) (Nat.mul 4294967295 one)) (Nat.land (Nat.shiftRight X (Nat.mul 34 k)) (Nat.mul 4294967295 one))) 32) D
noncomputable def sw_go (N : Nat) (l : List (Nat × Nat)) : Nat → Bool := List.rec (motive := fun _ => Nat → Bool) (fun X => sw_up X (Nat.sub N 1)) (fun s _ ih X => Nat.rec (motive := fun _ => Bool) (ih 0) (fun y _ => ih y) (Nat.add (sw_st X (sw_y X s.1 (sw_one s.1 (Nat.div N (Nat.mul 2 s.1))) s.2) s.1 (sw_one s.1 (Nat.div N (Nat.mul 2 s.1)))) 1)) l
theorem sw_go_inj {N : Nat} (hN : 0 < N) : ∀ (l : List (Nat × Nat)) (X : Nat), (∀ s, s ∈ l → 0 < s.1 ∧ N = 2 * s.1 * (N / (2 * s.1))) → sw_go N l X = true → ∀ i j, i < N → j < N → dg X i = dg X j → i = j := by
  intro l
  induction l with
  | nil =>
    intro X _ h i j hi hj
    exact sw_up_inj (n := N - 1) h i j (by omega) (by omega)
  | cons s l ih =>
    intro X hs h
    obtain ⟨k, D⟩ := s
    obtain ⟨k1, k2⟩ := hs (k, D) List.mem_cons_self
    exact sw_inj (q := N / (2 * k)) k1 N k2 (ih _ (fun s hs' => hs s (List.mem_cons_of_mem _ hs')) h)
