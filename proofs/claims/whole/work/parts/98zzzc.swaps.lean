/-! ===== swaps in a row of numbers that lie in one number ===== -/
theorem mul_spread {B c : Nat} (hB : 0 < B) (hc : c < 2 ^ B) : ∀ (Z i x : Nat), (∀ y, Z.testBit y = true → y % B = 0) → x < B → (c * Z).testBit (B * i + x) = (c.testBit x && Z.testBit (B * i)) := by
  intro Z
  induction Z using Nat.strongRecOn with
  | ind Z ih =>
    intro i x hZ hx
    by_cases z0 : Z = 0
    · subst z0
      rw [Nat.mul_zero, Nat.zero_testBit, Nat.zero_testBit, Bool.and_false]
    · -- Z = low + 2^B * rest, low is 0 or 1
      have hp : 2 ≤ 2 ^ B := by
        have := Nat.pow_le_pow_right (n := 2) (by decide) hB
        rw [Nat.pow_one] at this; exact this
      have e := Nat.mod_add_div Z (2 ^ B)
      have low : Z % 2 ^ B = (Z.testBit 0).toNat := by
        apply Nat.eq_of_testBit_eq
        intro k
        rw [Nat.testBit_mod_two_pow]
        by_cases k0 : k = 0
        · subst k0
          rw [decide_eq_true hB, Bool.true_and]
          cases Z.testBit 0 <;> rfl
        · have t1 : ((Z.testBit 0).toNat).testBit k = false := by
            cases Z.testBit 0
            · exact Nat.zero_testBit k
            · exact Nat.testBit_lt_two_pow (show 1 < 2 ^ k from Nat.one_lt_two_pow k0)
          rw [t1]
          by_cases kB : k < B
          · rw [decide_eq_true kB, Bool.true_and]
            cases hk : Z.testBit k with
            | false => rfl
            | true =>
              have := hZ k hk
              rw [Nat.mod_eq_of_lt kB] at this
              exact absurd this k0
          · rw [decide_eq_false kB, Bool.false_and]
      have rest : Z / 2 ^ B < Z := Nat.div_lt_self (by omega) hp
      have hr : ∀ y, (Z / 2 ^ B).testBit y = true → y % B = 0 := fun y hy => by
        rw [Nat.testBit_div_two_pow] at hy
        have := hZ _ hy
        rw [Nat.add_mod_right] at this
        exact this
      have ec : c * Z = c * (Z.testBit 0).toNat + 2 ^ B * (c * (Z / 2 ^ B)) := by
        rw [← low]
        have : c * (Z % 2 ^ B + 2 ^ B * (Z / 2 ^ B)) = c * (Z % 2 ^ B) + 2 ^ B * (c * (Z / 2 ^ B)) := by
          rw [Nat.mul_add, ← Nat.mul_assoc, ← Nat.mul_assoc, Nat.mul_comm c (2 ^ B)]
        rw [e] at this; exact this
      have hl : c * (Z.testBit 0).toNat < 2 ^ B := by
        cases Z.testBit 0
        · show c * 0 < _; omega
        · show c * 1 < _; omega
      rw [ec, bit_split hl]
      cases i with
      | zero =>
        rw [Nat.mul_zero, Nat.zero_add, if_pos hx]
        cases Z.testBit 0
        · show (c * 0).testBit x = _; rw [Nat.mul_zero, Nat.zero_testBit, Bool.and_false]
        · show (c * 1).testBit x = _; rw [Nat.mul_one, Bool.and_true]
      | succ i =>
        rw [if_neg (by rw [Nat.mul_succ]; omega), show B * (i + 1) + x - B = B * i + x by rw [Nat.mul_succ]; omega, ih _ rest i x hr hx, Nat.testBit_div_two_pow, show B * i + B = B * (i + 1) by rw [Nat.mul_succ]]
theorem rep_bit {B : Nat} (hB : 0 < B) : ∀ (n y : Nat), (rep B n).testBit y = (decide (y % B = 0) && decide (y / B < n)) := by
  have h1 : ∀ n, rep B n = ofD B ((List.range n).map (fun _ => 1)) := fun n => by
    rw [ofD_const hB, Nat.one_mul, List.length_range]
  have h2 : ∀ (l : List Nat) (y : Nat), (ofD B (l.map (fun _ => 1))).testBit y = (decide (y % B = 0) && decide (y / B < l.length)) := by
    intro l
    induction l with
    | nil =>
      intro y
      show (0 : Nat).testBit y = _
      rw [Nat.zero_testBit, decide_eq_false (show ¬ y / B < ([] : List Nat).length from Nat.not_lt_zero _), Bool.and_false]
    | cons x l ih =>
      intro y
      show (1 + 2 ^ B * ofD B (l.map (fun _ => 1))).testBit y = _
      have l1 : 1 < 2 ^ B := Nat.one_lt_two_pow (by omega)
      rw [bit_split l1, List.length_cons]
      by_cases e : y < B
      · rw [if_pos e, Nat.mod_eq_of_lt e, Nat.div_eq_of_lt e, decide_eq_true (show 0 < l.length + 1 by omega), Bool.and_true]
        by_cases y0 : y = 0
        · subst y0; rfl
        · rw [decide_eq_false y0]; exact Nat.testBit_lt_two_pow (Nat.one_lt_two_pow y0)
      · rw [if_neg e, ih (y - B)]
        have e1 : y % B = (y - B) % B := by
          rw [Nat.mod_eq_sub_mod (by omega)]
        have e2 : y / B = (y - B) / B + 1 := by
          rw [Nat.div_eq_sub_div hB (by omega)]
        rw [e1, e2]
        by_cases c : (y - B) / B < l.length
        · rw [decide_eq_true c, decide_eq_true (show (y - B) / B + 1 < l.length + 1 by omega)]
        · rw [decide_eq_false c, decide_eq_false (show ¬ (y - B) / B + 1 < l.length + 1 by omega)]
  intro n y
  rw [h1, h2, List.length_range]
/-- the number in place i: 32 bits of 34 -/
def dg (X i : Nat) : Nat := (X >>> (34 * i)) % 4294967296
theorem dg_bit (X i k : Nat) : (dg X i).testBit k = (decide (k < 32) && X.testBit (34 * i + k)) := by
  unfold dg
  rw [show (4294967296 : Nat) = 2 ^ 32 from rfl, Nat.testBit_mod_two_pow, Nat.testBit_shiftRight]
theorem dg_eq {X Y i j : Nat} (h : ∀ k, k < 32 → X.testBit (34 * i + k) = Y.testBit (34 * j + k)) : dg X i = dg Y j := by
  apply Nat.eq_of_testBit_eq
  intro k
  rw [dg_bit, dg_bit]
  by_cases e : k < 32
  · rw [h k e]
  · rw [decide_eq_false e, Bool.false_and, Bool.false_and]
/-- places of the first kind: blocks of k, then k of the other kind, q times -/
def sw_one (k q : Nat) : Nat := rep 34 k * rep (34 * (2 * k)) q
theorem sw_one_bit {k q : Nat} (hk : 0 < k) : ∀ y, (sw_one k q).testBit y = (decide (y % 34 = 0) && decide (y / 34 % (2 * k) < k) && decide (y / 34 / (2 * k) < q)) := by
  intro y
  unfold sw_one
  have hB : 0 < 34 * (2 * k) := by omega
  have hc : rep 34 k < 2 ^ (34 * (2 * k)) := by
    have := ofD_lt (b := 34) (fun _ : Nat => 1) (List.range k) (fun _ _ => by decide)
    rw [ofD_const (by decide), Nat.one_mul, List.length_range] at this
    exact Nat.lt_of_lt_of_le this (Nat.pow_le_pow_right (by decide) (by omega))
  have hZ : ∀ y, (rep (34 * (2 * k)) q).testBit y = true → y % (34 * (2 * k)) = 0 := fun y hy => by
    rw [rep_bit hB, Bool.and_eq_true, decide_eq_true_iff] at hy
    exact hy.1
  have e := Nat.div_add_mod y (34 * (2 * k))
  have hx := Nat.mod_lt y hB
  rw [← e, mul_spread hB hc _ _ _ hZ hx, rep_bit (by decide), rep_bit hB, Nat.mul_mod_right, decide_eq_true rfl, Bool.true_and, Nat.mul_div_cancel_left _ hB, e]
  have m1 : y % (34 * (2 * k)) % 34 = y % 34 := Nat.mod_mul_right_mod y 34 (2 * k)
  have m2 : y % (34 * (2 * k)) / 34 = y / 34 % (2 * k) := Nat.mod_mul_right_div_self y 34 (2 * k)
  rw [m1, m2, Nat.div_div_eq_div_mul]
/-- one stage: swap what Y says, in places of the first kind with those k ahead -/
def sw_e (X Y k one : Nat) : Nat := Nat.land (Nat.xor (Nat.land X (Nat.mul 4294967295 one)) (Nat.land (Nat.shiftRight X (Nat.mul 34 k)) (Nat.mul 4294967295 one))) (Nat.mul 4294967295 (Nat.land Y one))
def sw_st (X Y k one : Nat) : Nat := Nat.xor (Nat.xor X (sw_e X Y k one)) (Nat.shiftLeft (sw_e X Y k one) (Nat.mul 34 k))
section SW1
variable {X Y k q : Nat}
theorem sw_z {one : Nat} (h1 : ∀ y, one.testBit y = true → y % 34 = 0) (W i c : Nat) (hc : c < 34) : (4294967295 * (W &&& one)).testBit (34 * i + c) = (decide (c < 32) && (W.testBit (34 * i) && one.testBit (34 * i))) := by
  rw [mul_spread (by decide) (by decide) (W &&& one) i c (fun y hy => h1 y (by
    rw [Nat.testBit_and, Bool.and_eq_true] at hy
    exact hy.2)) hc, show (4294967295 : Nat) = 2 ^ 32 - 1 from rfl, Nat.testBit_two_pow_sub_one, Nat.testBit_and]
theorem sw_ml {one : Nat} (h1 : ∀ y, one.testBit y = true → y % 34 = 0) (i c : Nat) (hc : c < 34) : (4294967295 * one).testBit (34 * i + c) = (decide (c < 32) && one.testBit (34 * i)) := by
  rw [mul_spread (by decide) (by decide) one i c h1 hc, show (4294967295 : Nat) = 2 ^ 32 - 1 from rfl, Nat.testBit_two_pow_sub_one]
/-- where the number in place i comes from -/
def sw_p (Y k one i : Nat) : Nat := if one.testBit (34 * i) = true then (if Y.testBit (34 * i) = true then i + k else i) else if k ≤ i ∧ one.testBit (34 * (i - k)) = true ∧ Y.testBit (34 * (i - k)) = true then i - k else i
theorem sw_e_bit {one : Nat} (h1 : ∀ y, one.testBit y = true → y % 34 = 0) (i c : Nat) (hc : c < 34) : (sw_e X Y k one).testBit (34 * i + c) = (decide (c < 32) && ((X.testBit (34 * i + c) ^^ X.testBit (34 * (i + k) + c)) && (Y.testBit (34 * i) && one.testBit (34 * i)))) := by
  show (((X &&& 4294967295 * one) ^^^ ((X >>> (34 * k)) &&& 4294967295 * one)) &&& 4294967295 * (Y &&& one)).testBit (34 * i + c) = _
  rw [Nat.testBit_and, Nat.testBit_xor, Nat.testBit_and, Nat.testBit_and, sw_z h1 _ _ _ hc, sw_ml h1 _ _ hc, Nat.testBit_shiftRight, show 34 * k + (34 * i + c) = 34 * (i + k) + c by omega]
  cases decide (c < 32) <;> cases X.testBit (34 * i + c) <;> cases X.testBit (34 * (i + k) + c) <;> cases one.testBit (34 * i) <;> cases Y.testBit (34 * i) <;> rfl
theorem sw_dg {one : Nat} (h1 : ∀ y, one.testBit y = true → y % 34 = 0) {i : Nat} (h2 : one.testBit (34 * i) = true ∨ (k ≤ i ∧ one.testBit (34 * (i - k)) = true)) (h3 : one.testBit (34 * i) = true → k ≤ i → one.testBit (34 * (i - k)) = false) : dg (sw_st X Y k one) i = dg X (sw_p Y k one i) := by
  refine dg_eq (fun c hc => ?_)
  have hc' : c < 34 := by omega
  have ct : decide (c < 32) = true := decide_eq_true hc
  show ((X ^^^ sw_e X Y k one) ^^^ (sw_e X Y k one <<< (34 * k))).testBit (34 * i + c) = X.testBit (34 * sw_p Y k one i + c)
  rw [Nat.testBit_xor, Nat.testBit_xor, Nat.testBit_shiftLeft, sw_e_bit h1 _ _ hc', ct, Bool.true_and]
  unfold sw_p
  by_cases s1 : one.testBit (34 * i) = true
  · rw [if_pos s1, s1]
    have second : (decide (34 * i + c ≥ 34 * k) && (sw_e X Y k one).testBit (34 * i + c - 34 * k)) = false := by
      by_cases ki : k ≤ i
      · rw [show 34 * i + c - 34 * k = 34 * (i - k) + c by omega, sw_e_bit h1 _ _ hc', h3 s1 ki, Bool.and_false, Bool.and_false, Bool.and_false, Bool.and_false]
      · rw [decide_eq_false (show ¬ (34 * i + c ≥ 34 * k) by omega), Bool.false_and]
    rw [second, Bool.xor_false]
    cases hz : Y.testBit (34 * i) with
    | true =>
      rw [if_pos rfl]
      cases X.testBit (34 * i + c) <;> cases X.testBit (34 * (i + k) + c) <;> rfl
    | false =>
      rw [if_neg (by decide)]
      cases X.testBit (34 * i + c) <;> cases X.testBit (34 * (i + k) + c) <;> rfl
  · have s1' : one.testBit (34 * i) = false := Bool.eq_false_iff.mpr s1
    obtain ⟨ki, s2⟩ := h2.resolve_left s1
    rw [if_neg s1, s1', Bool.and_false, Bool.and_false, Bool.xor_false, decide_eq_true (show 34 * i + c ≥ 34 * k by omega), Bool.true_and, show 34 * i + c - 34 * k = 34 * (i - k) + c by omega, sw_e_bit h1 _ _ hc', s2, ct, Bool.true_and, show i - k + k = i by omega]
    cases hz : Y.testBit (34 * (i - k)) with
    | true =>
      rw [if_pos ⟨ki, rfl, rfl⟩]
      cases X.testBit (34 * i + c) <;> cases X.testBit (34 * (i - k) + c) <;> rfl
    | false =>
      rw [if_neg (fun z => absurd z.2.2 (by decide))]
      cases X.testBit (34 * i + c) <;> cases X.testBit (34 * (i - k) + c) <;> rfl
/-- all different behind a stage: all different before -/
theorem sw_inj (hk : 0 < k) (N : Nat) (hN : N = 2 * k * q) (h : ∀ i j, i < N → j < N → dg (sw_st X Y k (sw_one k q)) i = dg (sw_st X Y k (sw_one k q)) j → i = j) : ∀ i j, i < N → j < N → dg X i = dg X j → i = j := by
  have ob : ∀ i, (sw_one k q).testBit (34 * i) = (decide (i % (2 * k) < k) && decide (i / (2 * k) < q)) := fun i => by
    rw [sw_one_bit hk, Nat.mul_mod_right, decide_eq_true rfl, Bool.true_and, Nat.mul_div_cancel_left _ (by decide : 0 < 34)]
  have h1 : ∀ y, (sw_one k q).testBit y = true → y % 34 = 0 := fun y hy => by
    rw [sw_one_bit hk, Bool.and_eq_true, Bool.and_eq_true, decide_eq_true_iff] at hy
    exact hy.1.1
  have hq : ∀ i, i < N → i / (2 * k) < q := fun i hi => by
    rw [hN] at hi
    exact Nat.div_lt_of_lt_mul hi
  have k2 : 0 < 2 * k := by omega
  have sel : ∀ i, i < N → ((sw_one k q).testBit (34 * i) = true ↔ i % (2 * k) < k) := fun i hi => by
    rw [ob i, decide_eq_true (hq i hi), Bool.and_true, decide_eq_true_iff]
  -- the place k behind one of the other kind is of the first kind
  have back : ∀ i, i < N → ¬ i % (2 * k) < k → k ≤ i ∧ (i - k) % (2 * k) < k := fun i _ hn => by
    have e := Nat.div_add_mod i (2 * k)
    have l := Nat.mod_lt i k2
    have le : k ≤ i := by omega
    have e2 : i - k = 2 * k * (i / (2 * k)) + (i % (2 * k) - k) := by omega
    refine ⟨le, ?_⟩
    rw [e2, Nat.mul_add_mod, Nat.mod_eq_of_lt (by omega)]; omega
  have fwd : ∀ i, i < N → i % (2 * k) < k → i + k < N ∧ ¬ (i + k) % (2 * k) < k := fun i hi hs => by
    have e := Nat.div_add_mod i (2 * k)
    have e2 : i + k = 2 * k * (i / (2 * k)) + (i % (2 * k) + k) := by omega
    refine ⟨?_, ?_⟩
    · have := hq i hi
      have : 2 * k * (i / (2 * k) + 1) ≤ 2 * k * q := Nat.mul_le_mul_left _ this
      rw [Nat.mul_add, Nat.mul_one] at this
      omega
    · rw [e2, Nat.mul_add_mod, Nat.mod_eq_of_lt (by omega)]; omega
  have pN : ∀ i, i < N → sw_p Y k (sw_one k q) i < N ∧ sw_p Y k (sw_one k q) (sw_p Y k (sw_one k q) i) = i := fun i hi => by
    by_cases s1 : i % (2 * k) < k
    · have s1' := (sel i hi).mpr s1
      obtain ⟨f1, f2⟩ := fwd i hi s1
      cases hz : Y.testBit (34 * i) with
      | true =>
        have e : sw_p Y k (sw_one k q) i = i + k := by
          unfold sw_p; rw [if_pos s1', if_pos hz]
        rw [e]
        refine ⟨f1, ?_⟩
        unfold sw_p
        rw [if_neg (fun z => f2 ((sel _ f1).mp z)), Nat.add_sub_cancel, if_pos ⟨by omega, s1', hz⟩]
      | false =>
        have e : sw_p Y k (sw_one k q) i = i := by
          unfold sw_p; rw [if_pos s1', hz, if_neg (by decide)]
        rw [e]; exact ⟨hi, e⟩
    · obtain ⟨b1, b2⟩ := back i hi s1
      have s1' : ¬ (sw_one k q).testBit (34 * i) = true := fun z => s1 ((sel i hi).mp z)
      have hik : i - k < N := by omega
      have s2 := (sel _ hik).mpr b2
      cases hz : Y.testBit (34 * (i - k)) with
      | true =>
        have e : sw_p Y k (sw_one k q) i = i - k := by
          unfold sw_p; rw [if_neg s1', if_pos ⟨b1, s2, hz⟩]
        rw [e]
        refine ⟨hik, ?_⟩
        unfold sw_p
        rw [if_pos s2, if_pos hz]; omega
      | false =>
        have e : sw_p Y k (sw_one k q) i = i := by
          unfold sw_p; rw [if_neg s1', if_neg (fun z => by rw [hz] at z; exact absurd z.2.2 (by decide))]
        rw [e]; exact ⟨hi, e⟩
  have dgN : ∀ i, i < N → dg (sw_st X Y k (sw_one k q)) i = dg X (sw_p Y k (sw_one k q) i) := fun i hi => by
    refine sw_dg h1 ?_ ?_
    · by_cases s1 : i % (2 * k) < k
      · exact Or.inl ((sel i hi).mpr s1)
      · obtain ⟨b1, b2⟩ := back i hi s1
        exact Or.inr ⟨b1, (sel _ (by omega)).mpr b2⟩
    · intro s1 ki
      have s1' := (sel i hi).mp s1
      refine Bool.eq_false_iff.mpr (fun z => ?_)
      have z' := (sel _ (show i - k < N by omega)).mp z
      have e := Nat.div_add_mod i (2 * k)
      obtain ⟨_, f2⟩ := fwd (i - k) (by omega) z'
      rw [show i - k + k = i by omega] at f2
      exact f2 s1'
  intro a c ha hc e
  obtain ⟨a1, a2⟩ := pN a ha
  obtain ⟨c1, c2⟩ := pN c hc
  have := h _ _ a1 c1 (by rw [dgN _ a1, dgN _ c1, a2, c2]; exact e)
  rw [← a2, ← c2, this]
end SW1
