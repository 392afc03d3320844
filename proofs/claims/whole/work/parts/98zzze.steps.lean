/-! ===== vectors by numbers of steps ===== -/
def sI (f : Nat → Int) : Nat → Int
  | 0 => 0
  | k + 1 => sI f k + f k
theorem sI_congr {f g : Nat → Int} : ∀ {p : Nat}, (∀ i, i < p → f i = g i) → sI f p = sI g p := by
  intro p
  induction p with
  | zero => intro _; rfl
  | succ p ih => intro h; show sI f p + f p = sI g p + g p; rw [ih (fun i hi => h i (by omega)), h p (by omega)]
theorem sI_cg {P : Int} {f g : Nat → Int} : ∀ {p : Nat}, (∀ i, i < p → cg P (f i) (g i)) → cg P (sI f p) (sI g p) := by
  intro p
  induction p with
  | zero => intro _; exact cg_refl _ _
  | succ p ih => intro h; exact cg_add (ih (fun i hi => h i (by omega))) (h p (by omega))
theorem sI_add {f g : Nat → Int} : ∀ (p : Nat), sI (fun i => f i + g i) p = sI f p + sI g p := by
  intro p
  induction p with
  | zero => rfl
  | succ p ih => show sI _ p + (f p + g p) = sI f p + f p + (sI g p + g p); rw [ih]; omega
theorem sI_mul (c : Int) {f : Nat → Int} : ∀ (p : Nat), sI (fun i => c * f i) p = c * sI f p := by
  intro p
  induction p with
  | zero => exact (Int.mul_zero c).symm
  | succ p ih => show sI _ p + c * f p = c * (sI f p + f p); rw [ih, Int.mul_add]
theorem sI_upd {f g : Nat → Int} {y : Nat} : ∀ {p : Nat}, y < p → (∀ i, i < p → i ≠ y → g i = f i) → sI g p = sI f p + (g y - f y) := by
  intro p
  induction p with
  | zero => intro h; omega
  | succ p ih =>
    intro hy h
    show sI g p + g p = sI f p + f p + (g y - f y)
    by_cases e : y = p
    · subst e
      rw [sI_congr (g := f) (fun i hi => h i (by omega) (by omega))]; omega
    · rw [ih (by omega) (fun i hi => h i (by omega)), h p (by omega) (fun z => e z.symm)]; omega
theorem sI_swap {F : Nat → Nat → Int} (m : Nat) : ∀ (n : Nat), sI (fun i => sI (fun j => F i j) m) n = sI (fun j => sI (fun i => F i j) n) m := by
  intro n
  induction n with
  | zero =>
    show (0 : Int) = sI (fun _ => 0) m
    induction m with
    | zero => rfl
    | succ m ih => show (0 : Int) = sI (fun _ => 0) m + 0; rw [← ih]; rfl
  | succ n ih =>
    show sI _ n + sI (fun j => F n j) m = sI (fun j => sI (fun i => F i j) n + F n j) m
    rw [ih, sI_add]
/-- the matrix: twice the cosine between sides, -2 for a side and itself -/
def wa (p : Nat) (cs : Nat → Nat) (i j : Nat) : Int := if i = j then -2 else (an_c1 (an_m p cs i j) : Int)
/-- a fold: 2^31 is 5167 modulo the first prime -/
def fo (x : Nat) : Nat := x % 2147483648 + 5167 * (x / 2147483648)
theorem fo_cg (x : Nat) : cg an_P1 (fo x : Nat) x := by
  refine ⟨-((x / 2147483648 : Nat) : Int), ?_⟩
  unfold fo an_P1
  omega
/-- weights of the steps into a side's number: the corner's, and 2 for the far ones -/
def wc (p : Nat) (cs : Nat → Nat) (y j : Nat) : Nat := if j = y then 0 else an_c1 (an_m p cs y j)
/-- numbers of steps, as they are reckoned -/
def sN (p : Nat) (f : Nat → Nat) : Nat := sm f p
def dn (p : Nat) (cs : Nat → Nat) : List Nat → Nat → Nat
  | [], _ => 0
  | y :: w, i => if i = y then fo (fo (sN p (fun j => wc p cs y j * dn p cs w j) + (6442435444 - dn p cs w y))) else dn p cs w i
theorem dn_lt (p : Nat) (cs : Nat → Nat) (hp : p ≤ 8) : ∀ (w : List Nat) (i : Nat), dn p cs w i < 4294967296 := by
  intro w
  induction w with
  | nil => intro i; show 0 < _; decide
  | cons y w ih =>
    intro i
    show (if i = y then fo (fo (sN p (fun j => wc p cs y j * dn p cs w j) + (6442435444 - dn p cs w y))) else dn p cs w i) < _
    by_cases e : i = y
    · rw [if_pos e]
      have b1 : sN p (fun j => wc p cs y j * dn p cs w j) ≤ p * (2147478480 * 4294967295) := by
        refine sm_bound (fun j _ => ?_)
        have h1 : wc p cs y j ≤ 2147478480 := by
          unfold wc
          by_cases c : j = y
          · rw [if_pos c]; omega
          · rw [if_neg c]
            have := an_c1_lt (an_m p cs y j)
            unfold an_P1 at this
            omega
        exact Nat.mul_le_mul h1 (by have := ih j; omega)
      have b2 : p * (2147478480 * 4294967295) ≤ 8 * (2147478480 * 4294967295) := Nat.mul_le_mul_right _ hp
      generalize sN p (fun j => wc p cs y j * dn p cs w j) = S at b1 ⊢
      unfold fo
      omega
    · rw [if_neg e]; exact ih i
/-- the vector out of the numbers of steps -/
theorem dn_v {p : Nat} {cs : Nat → Nat} (hp3 : 3 ≤ p) (hp : p ≤ 8) : ∀ (w : List Nat), (∀ y, y ∈ w → y < p) → ∀ j, j < p → cg an_P1 (wd_v p cs w j) (1 + sI (fun i => wa p cs i j * dn p cs w i) p) := by
  intro w
  induction w with
  | nil =>
    intro _ j hj
    show cg _ ((1 : Nat) : Int) (1 + sI (fun i => wa p cs i j * ((0 : Nat) : Int)) p)
    rw [sI_congr (g := fun _ => 0 * 0) (fun i _ => by show wa p cs i j * 0 = 0 * 0; omega), sI_mul 0, Int.zero_mul]
    exact cg_refl _ _
  | cons y w ih =>
    intro hw j hj
    have hy : y < p := hw y List.mem_cons_self
    have ih := ih (fun z hz => hw z (List.mem_cons_of_mem _ hz))
    have vlt : wd_v p cs w y < an_P1 := by
      cases w with
      | nil => show 1 < an_P1; decide
      | cons z w => exact tn_r_lt (by decide) _ _ _ _
    have dl := dn_lt p cs hp w y
    -- the new number of steps
    have ny : cg an_P1 (dn p cs (y :: w) y) (dn p cs w y + wd_v p cs w y) := by
      have e1 : dn p cs (y :: w) y = fo (fo (sN p (fun j => wc p cs y j * dn p cs w j) + (6442435444 - dn p cs w y))) := if_pos rfl
      rw [e1]
      refine cg_trans (fo_cg _) (cg_trans (fo_cg _) ?_)
      have vy := ih y hy
      have s1 : ((sN p (fun j => wc p cs y j * dn p cs w j) : Nat) : Int) = sI (fun i => wa p cs i y * dn p cs w i) p + 2 * dn p cs w y := by
        have c1 : ∀ q, ((sm (fun j => wc p cs y j * dn p cs w j) q : Nat) : Int) = sI (fun j => ((wc p cs y j : Nat) : Int) * dn p cs w j) q := by
          intro q
          induction q with
          | zero => rfl
          | succ q ihq =>
            show ((sm (fun j => wc p cs y j * dn p cs w j) q + wc p cs y q * dn p cs w q : Nat) : Int) = _
            rw [Int.natCast_add, ihq, Int.natCast_mul]; rfl
        show ((sm (fun j => wc p cs y j * dn p cs w j) p : Nat) : Int) = _
        rw [c1, sI_upd (f := fun i => wa p cs i y * dn p cs w i) hy (fun i hi hiy => ?_)]
        · have w1 : wc p cs y y = 0 := if_pos rfl
          have w2 : wa p cs y y = -2 := if_pos rfl
          rw [w1, w2]
          have : ((0 : Nat) : Int) * (dn p cs w y : Int) = 0 := by rw [Int.natCast_zero, Int.zero_mul]
          rw [this]; omega
        · show ((wc p cs y i : Nat) : Int) * dn p cs w i = wa p cs i y * dn p cs w i
          have w1 : wc p cs y i = an_c1 (an_m p cs y i) := if_neg hiy
          have w2 : wa p cs i y = (an_c1 (an_m p cs i y) : Int) := if_neg hiy
          rw [w1, w2]
          have sy : an_m p cs y i = an_m p cs i y := by
            unfold an_m
            rcases md_1 hy with ⟨x1, x2⟩ | ⟨x1, x2⟩ <;> rcases md_1 hi with ⟨x3, x4⟩ | ⟨x3, x4⟩ <;> rw [x1, x3]
            · by_cases c : y + 1 = i
              · rw [if_pos c, if_neg (by omega), if_pos c]
              · rw [if_neg c]
                by_cases c2 : i + 1 = y
                · rw [if_pos c2, if_pos c2]
                · rw [if_neg c2, if_neg c2, if_neg c]
            · by_cases c : y + 1 = i
              · rw [if_pos c, if_neg (by omega), if_pos c]
              · rw [if_neg c]
                by_cases c2 : 0 = y
                · rw [if_pos c2, if_pos c2]
                · rw [if_neg c2, if_neg c2, if_neg c]
            · by_cases c : 0 = i
              · rw [if_pos c, if_neg (by omega), if_pos c]
              · rw [if_neg c]
                by_cases c2 : i + 1 = y
                · rw [if_pos c2, if_pos c2]
                · rw [if_neg c2, if_neg c2, if_neg c]
            · omega
          rw [sy]
      rw [Int.natCast_add, s1]
      have s2 : ((6442435444 - dn p cs w y : Nat) : Int) = 6442435444 - dn p cs w y := by omega
      rw [s2]
      refine cg_trans ?_ (cg_add (cg_refl _ _) (cg_symm vy))
      generalize sI (fun i => wa p cs i y * dn p cs w i) p = S
      refine ⟨3, ?_⟩
      unfold an_P1
      omega
    have up : sI (fun i => wa p cs i j * dn p cs (y :: w) i) p = sI (fun i => wa p cs i j * dn p cs w i) p + (wa p cs y j * dn p cs (y :: w) y - wa p cs y j * dn p cs w y) := sI_upd hy (fun i hi hiy => by
      have : dn p cs (y :: w) i = dn p cs w i := if_neg hiy
      rw [this])
    have dif : cg an_P1 (wa p cs y j * dn p cs (y :: w) y - wa p cs y j * dn p cs w y) (wa p cs y j * wd_v p cs w y) := by
      have q := cg_mul (wa p cs y j) ny
      rw [Int.mul_add] at q
      have := cg_add q (cg_refl _ (-(wa p cs y j * dn p cs w y)))
      rw [← Int.sub_eq_add_neg] at this
      refine cg_trans this ⟨0, ?_⟩
      omega
    have vj := ih j hj
    refine cg_trans (tn_cg vlt j) (cg_symm ?_)
    rw [up]
    by_cases e : j = y
    · rw [if_pos e]
      have w2 : wa p cs y j = -2 := by rw [e]; exact if_pos rfl
      rw [w2] at dif ⊢
      rw [e] at vj ⊢
      have s := cg_add (cg_symm vj) dif
      refine cg_trans ⟨0, ?_⟩ (cg_trans s ⟨0, ?_⟩)
      · omega
      · omega
    · rw [if_neg e]
      have w2 : wa p cs y j = (an_c1 (an_m p cs y j) : Int) := if_neg (fun z => e z.symm)
      rw [w2] at dif ⊢
      have s := cg_add (cg_symm vj) dif
      refine cg_trans ⟨0, ?_⟩ (cg_trans s ⟨0, ?_⟩)
      · omega
      · show _ = (wd_v p cs w j : Int) + an_c1 (an_m p cs y j) * wd_v p cs w y + _
        omega
