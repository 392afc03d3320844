/-! ===== vectors round a corner: both ways round, the same vector ===== -/
def cg (P a b : Int) : Prop := ∃ k : Int, a = b + P * k
theorem cg_refl (P a : Int) : cg P a a := ⟨0, by rw [Int.mul_zero, Int.add_zero]⟩
theorem cg_symm {P a b : Int} (h : cg P a b) : cg P b a := by
  obtain ⟨k, h⟩ := h
  refine ⟨-k, ?_⟩
  rw [h, Int.mul_neg]
  omega
theorem cg_trans {P a b c : Int} (h : cg P a b) (h' : cg P b c) : cg P a c := by
  obtain ⟨k, h⟩ := h
  obtain ⟨k', h'⟩ := h'
  refine ⟨k' + k, ?_⟩
  rw [h, h', Int.mul_add]
  omega
theorem cg_add {P a b a' b' : Int} (h : cg P a b) (h' : cg P a' b') : cg P (a + a') (b + b') := by
  obtain ⟨k, h⟩ := h
  obtain ⟨k', h'⟩ := h'
  refine ⟨k + k', ?_⟩
  rw [h, h', Int.mul_add]
  omega
theorem cg_neg {P a b : Int} (h : cg P a b) : cg P (-a) (-b) := by
  obtain ⟨k, h⟩ := h
  refine ⟨-k, ?_⟩
  rw [h, Int.mul_neg]
  omega
theorem cg_mul {P a b : Int} (c : Int) (h : cg P a b) : cg P (c * a) (c * b) := by
  obtain ⟨k, h⟩ := h
  refine ⟨c * k, ?_⟩
  rw [h, Int.mul_add, ← Int.mul_assoc, ← Int.mul_assoc, Int.mul_comm c P]
theorem cg_mod (P x : Nat) : cg P (x % P : Nat) x := by
  refine ⟨-((x / P : Nat) : Int), ?_⟩
  have h : ((x % P + P * (x / P) : Nat) : Int) = x := congrArg Int.ofNat (Nat.mod_add_div x P)
  rw [Int.natCast_add, Int.natCast_mul] at h
  rw [Int.mul_neg]
  omega
theorem cg_eq {P a b : Nat} (ha : a < P) (hb : b < P) (h : cg P a b) : a = b := by
  obtain ⟨k, h⟩ := h
  have h1 : (a : Int) % P = b % P := by
    rw [h, Int.add_mul_emod_self_left]
  rw [Int.emod_eq_of_lt (Int.natCast_nonneg a) (Int.ofNat_lt.mpr ha), Int.emod_eq_of_lt (Int.natCast_nonneg b) (Int.ofNat_lt.mpr hb)] at h1
  exact Int.ofNat_inj.mp h1
theorem tn_cg {P : Nat} {c V : Nat → Nat} {s : Nat} (hv : V s < P) (j : Nat) : cg P (tn_r P c V s j : Nat) (if j = s then -(V s : Int) else V j + c j * V s) := by
  unfold tn_r
  by_cases e : j = s
  · rw [if_pos e, if_pos e]
    refine cg_trans (cg_mod P _) ⟨1, ?_⟩
    omega
  · rw [if_neg e, if_neg e]
    refine cg_trans (cg_mod P _) ?_
    rw [Int.natCast_add, Int.natCast_mul]
    exact cg_refl _ _
/-- one turn, over the first side of the corner or the second: the two numbers, and what has been added up -/
def bs (c : Int) (f : Bool) (q : Int × Int × Int × Int) : Int × Int × Int × Int := if f then (-q.1, q.2.1 + c * q.1, q.2.2.1 + q.1, q.2.2.2) else (q.1 + c * q.2.1, -q.2.1, q.2.2.1, q.2.2.2 + q.2.1)
def bz (c : Int) (f : Bool) (q : Int × Int × Int × Int) : Nat → Int × Int × Int × Int
  | 0 => q
  | k + 1 => bs c (f == (k % 2 == 0)) (bz c f q k)
theorem bs_lin (c : Int) (f : Bool) (u v : Int) (q q1 q2 : Int × Int × Int × Int) (h1 : q.1 = u * q1.1 + v * q2.1) (h2 : q.2.1 = u * q1.2.1 + v * q2.2.1) (h3 : q.2.2.1 = u * q1.2.2.1 + v * q2.2.2.1) (h4 : q.2.2.2 = u * q1.2.2.2 + v * q2.2.2.2) : (bs c f q).1 = u * (bs c f q1).1 + v * (bs c f q2).1 ∧ (bs c f q).2.1 = u * (bs c f q1).2.1 + v * (bs c f q2).2.1 ∧ (bs c f q).2.2.1 = u * (bs c f q1).2.2.1 + v * (bs c f q2).2.2.1 ∧ (bs c f q).2.2.2 = u * (bs c f q1).2.2.2 + v * (bs c f q2).2.2.2 := by
  cases f
  · show q.1 + c * q.2.1 = u * (q1.1 + c * q1.2.1) + v * (q2.1 + c * q2.2.1) ∧ -q.2.1 = u * (-q1.2.1) + v * (-q2.2.1) ∧ q.2.2.1 = u * q1.2.2.1 + v * q2.2.2.1 ∧ q.2.2.2 + q.2.1 = u * (q1.2.2.2 + q1.2.1) + v * (q2.2.2.2 + q2.2.1)
    rw [h1, h2, h3, h4]
    refine ⟨by grind, by grind, rfl, by grind⟩
  · show -q.1 = u * (-q1.1) + v * (-q2.1) ∧ q.2.1 + c * q.1 = u * (q1.2.1 + c * q1.1) + v * (q2.2.1 + c * q2.1) ∧ q.2.2.1 + q.1 = u * (q1.2.2.1 + q1.1) + v * (q2.2.2.1 + q2.1) ∧ q.2.2.2 = u * q1.2.2.2 + v * q2.2.2.2
    rw [h1, h2, h3, h4]
    refine ⟨by grind, by grind, by grind, rfl⟩
theorem bz_lin (c : Int) (f : Bool) (u v : Int) : ∀ k, (bz c f (u, v, 0, 0) k).1 = u * (bz c f (1, 0, 0, 0) k).1 + v * (bz c f (0, 1, 0, 0) k).1 ∧ (bz c f (u, v, 0, 0) k).2.1 = u * (bz c f (1, 0, 0, 0) k).2.1 + v * (bz c f (0, 1, 0, 0) k).2.1 ∧ (bz c f (u, v, 0, 0) k).2.2.1 = u * (bz c f (1, 0, 0, 0) k).2.2.1 + v * (bz c f (0, 1, 0, 0) k).2.2.1 ∧ (bz c f (u, v, 0, 0) k).2.2.2 = u * (bz c f (1, 0, 0, 0) k).2.2.2 + v * (bz c f (0, 1, 0, 0) k).2.2.2 := by
  intro k
  induction k with
  | zero => exact ⟨show u = u * 1 + v * 0 by omega, show v = u * 0 + v * 1 by omega, show (0 : Int) = u * 0 + v * 0 by omega, show (0 : Int) = u * 0 + v * 0 by omega⟩
  | succ k ih => exact bs_lin c _ u v _ _ _ ih.1 ih.2.1 ih.2.2.1 ih.2.2.2
/-- both ways round, reckoned -/
def bq (P c : Int) (m : Nat) (q : Int × Int × Int × Int) : Bool := ((bz c true q m).1 - (bz c false q m).1) % P == 0 && ((bz c true q m).2.1 - (bz c false q m).2.1) % P == 0 && ((bz c true q m).2.2.1 - (bz c false q m).2.2.1) % P == 0 && ((bz c true q m).2.2.2 - (bz c false q m).2.2.2) % P == 0
theorem bq_1 : ∀ m : Fin 10, 2 ≤ m.1 → (bq an_P1 (an_c1 m.1) m.1 (1, 0, 0, 0) && bq an_P1 (an_c1 m.1) m.1 (0, 1, 0, 0)) = true := by decide +kernel
theorem bq_2 : ∀ m : Fin 10, 2 ≤ m.1 → (bq an_P2 (an_c2 m.1) m.1 (1, 0, 0, 0) && bq an_P2 (an_c2 m.1) m.1 (0, 1, 0, 0)) = true := by decide +kernel
theorem cg_of {P a b : Int} (h : ((a - b) % P == 0) = true) : cg P a b := by
  have h1 : (a - b) % P = 0 := beq_iff_eq.mp h
  have h2 := Int.mul_ediv_add_emod (a - b) P
  rw [h1] at h2
  exact ⟨(a - b) / P, by omega⟩
theorem bq_cg {P c : Int} {m : Nat} {q : Int × Int × Int × Int} (h : bq P c m q = true) : cg P (bz c true q m).1 (bz c false q m).1 ∧ cg P (bz c true q m).2.1 (bz c false q m).2.1 ∧ cg P (bz c true q m).2.2.1 (bz c false q m).2.2.1 ∧ cg P (bz c true q m).2.2.2 (bz c false q m).2.2.2 := by
  unfold bq at h
  simp only [Bool.and_eq_true] at h
  exact ⟨cg_of h.1.1.1, cg_of h.1.1.2, cg_of h.1.2, cg_of h.2⟩
theorem bz_same {P c : Int} {m : Nat} (h : (bq P c m (1, 0, 0, 0) && bq P c m (0, 1, 0, 0)) = true) (u v : Int) : cg P (bz c true (u, v, 0, 0) m).1 (bz c false (u, v, 0, 0) m).1 ∧ cg P (bz c true (u, v, 0, 0) m).2.1 (bz c false (u, v, 0, 0) m).2.1 ∧ cg P (bz c true (u, v, 0, 0) m).2.2.1 (bz c false (u, v, 0, 0) m).2.2.1 ∧ cg P (bz c true (u, v, 0, 0) m).2.2.2 (bz c false (u, v, 0, 0) m).2.2.2 := by
  rw [Bool.and_eq_true] at h
  obtain ⟨a1, a2, a3, a4⟩ := bq_cg h.1
  obtain ⟨b1, b2, b3, b4⟩ := bq_cg h.2
  obtain ⟨x1, x2, x3, x4⟩ := bz_lin c true u v m
  obtain ⟨y1, y2, y3, y4⟩ := bz_lin c false u v m
  rw [x1, x2, x3, x4, y1, y2, y3, y4]
  exact ⟨cg_add (cg_mul u a1) (cg_mul v b1), cg_add (cg_mul u a2) (cg_mul v b2), cg_add (cg_mul u a3) (cg_mul v b3), cg_add (cg_mul u a4) (cg_mul v b4)⟩
/-- the letters of a way round a corner -/
def al (a b k : Nat) : Nat := if k % 2 = 0 then a else b
section BZ1
variable {P p : Nat} {c : Nat → Nat → Nat} {r s : Nat}
/-- a way of turns from Z -/
theorem bz_way (hr : r < p) (hs : s < p) (hrs : r ≠ s) (hc : c r s = c s r) {f : Bool} {A : Nat → Nat → Nat} {m : Nat} (hA : ∀ k, k < m → ∀ j, j < p → A (k + 1) j = tn_r P (c (if (f == (k % 2 == 0)) = true then r else s)) (A k) (if (f == (k % 2 == 0)) = true then r else s) j) (hlt : ∀ k, k ≤ m → A k r < P ∧ A k s < P) : ∀ k, k ≤ m → ∀ j, j < p → cg P (A k j) (if j = r then (bz (c r s) f (A 0 r, A 0 s, 0, 0) k).1 else if j = s then (bz (c r s) f (A 0 r, A 0 s, 0, 0) k).2.1 else A 0 j + c r j * (bz (c r s) f (A 0 r, A 0 s, 0, 0) k).2.2.1 + c s j * (bz (c r s) f (A 0 r, A 0 s, 0, 0) k).2.2.2) := by
  intro k
  induction k with
  | zero =>
    intro _ j _
    by_cases e : j = r
    · rw [if_pos e, e]; exact cg_refl _ _
    · rw [if_neg e]
      by_cases e2 : j = s
      · rw [if_pos e2, e2]; exact cg_refl _ _
      · rw [if_neg e2]
        show cg P _ (_ + _ * 0 + _ * 0)
        rw [Int.mul_zero, Int.mul_zero, Int.add_zero, Int.add_zero]
        exact cg_refl _ _
  | succ k ih =>
    intro hk j hj
    have ih := ih (by omega)
    have ir := ih r hr
    have is := ih s hs
    rw [if_pos rfl] at ir
    rw [if_neg (fun z => hrs z.symm), if_pos rfl] at is
    obtain ⟨l1, l2⟩ := hlt k (by omega)
    rw [hA k (by omega) j hj]
    show cg P _ (if j = r then (bs (c r s) (f == (k % 2 == 0)) (bz (c r s) f (A 0 r, A 0 s, 0, 0) k)).1 else if j = s then (bs (c r s) (f == (k % 2 == 0)) (bz (c r s) f (A 0 r, A 0 s, 0, 0) k)).2.1 else A 0 j + c r j * (bs (c r s) (f == (k % 2 == 0)) (bz (c r s) f (A 0 r, A 0 s, 0, 0) k)).2.2.1 + c s j * (bs (c r s) (f == (k % 2 == 0)) (bz (c r s) f (A 0 r, A 0 s, 0, 0) k)).2.2.2)
    generalize hq : bz (c r s) f (A 0 r, A 0 s, 0, 0) k = q at ih ir is ⊢
    cases hf : (f == (k % 2 == 0)) with
    | true =>
      rw [if_pos rfl]
      refine cg_trans (tn_cg l1 j) ?_
      by_cases e : j = r
      · rw [if_pos e, if_pos e]
        exact cg_neg ir
      · rw [if_neg e, if_neg e]
        by_cases e2 : j = s
        · rw [if_pos e2, e2]
          exact cg_add is (cg_mul _ ir)
        · rw [if_neg e2]
          have ij := ih j hj
          rw [if_neg e, if_neg e2] at ij
          have := cg_add ij (cg_mul (c r j) ir)
          refine cg_trans this ?_
          show cg P _ (_ + _ * (q.2.2.1 + q.1) + _ * q.2.2.2)
          rw [Int.mul_add]
          refine ⟨0, ?_⟩
          omega
    | false =>
      rw [if_neg (by decide)]
      refine cg_trans (tn_cg l2 j) ?_
      by_cases e2 : j = s
      · rw [if_pos e2, if_neg (fun z => hrs (z.symm.trans e2)), if_pos e2]
        exact cg_neg is
      · rw [if_neg e2]
        by_cases e : j = r
        · rw [if_pos e, e, ← hc]
          exact cg_add ir (cg_mul _ is)
        · rw [if_neg e, if_neg e2]
          have ij := ih j hj
          rw [if_neg e, if_neg e2] at ij
          have := cg_add ij (cg_mul (c s j) is)
          refine cg_trans this ?_
          show cg P _ (_ + _ * q.2.2.1 + _ * (q.2.2.2 + q.2.1))
          rw [Int.mul_add]
          refine ⟨0, ?_⟩
          omega
/-- both ways round a corner end in the same vector -/
theorem bz_both (hr : r < p) (hs : s < p) (hrs : r ≠ s) (hc : c r s = c s r) {A B : Nat → Nat → Nat} {m : Nat} (h0 : ∀ j, j < p → A 0 j = B 0 j) (hA : ∀ k, k < m → ∀ j, j < p → A (k + 1) j = tn_r P (c (al r s k)) (A k) (al r s k) j) (hB : ∀ k, k < m → ∀ j, j < p → B (k + 1) j = tn_r P (c (al s r k)) (B k) (al s r k) j) (hlA : ∀ k, k ≤ m → ∀ j, j < p → A k j < P) (hlB : ∀ k, k ≤ m → ∀ j, j < p → B k j < P) (hm : (bq P (c r s) m (1, 0, 0, 0) && bq P (c r s) m (0, 1, 0, 0)) = true) (j : Nat) (hj : j < p) : A m j = B m j := by
  have wA := bz_way (f := true) hr hs hrs hc (A := A) (m := m) (fun k hk j hj => by
    rw [hA k hk j hj]
    unfold al
    by_cases e : k % 2 = 0
    · rw [if_pos e, e]; rfl
    · rw [if_neg e, show k % 2 = 1 by omega]; rfl) (fun k hk => ⟨hlA k hk r hr, hlA k hk s hs⟩) m (Nat.le_refl _) j hj
  have wB := bz_way (f := false) hr hs hrs hc (A := B) (m := m) (fun k hk j hj => by
    rw [hB k hk j hj]
    unfold al
    by_cases e : k % 2 = 0
    · rw [if_pos e, e]; rfl
    · rw [if_neg e, show k % 2 = 1 by omega]; rfl) (fun k hk => ⟨hlB k hk r hr, hlB k hk s hs⟩) m (Nat.le_refl _) j hj
  rw [← h0 r hr, ← h0 s hs, ← h0 j hj] at wB
  obtain ⟨q1, q2, q3, q4⟩ := bz_same hm (A 0 r) (A 0 s)
  refine cg_eq (hlA m (Nat.le_refl _) j hj) (hlB m (Nat.le_refl _) j hj) (cg_trans wA (cg_trans ?_ (cg_symm wB)))
  by_cases e : j = r
  · rw [if_pos e, if_pos e]; exact q1
  · rw [if_neg e, if_neg e]
    by_cases e2 : j = s
    · rw [if_pos e2, if_pos e2]; exact q2
    · rw [if_neg e2, if_neg e2]
      exact cg_add (cg_add (cg_refl _ _) (cg_mul _ q3)) (cg_mul _ q4)
end BZ1
