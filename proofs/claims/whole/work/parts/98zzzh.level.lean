/-! ===== all words of one length ===== -/
def wq_l (p y d : Nat) (q : Nat × Nat × Nat × Nat) : Nat := 1 + (if d = (y + p - 1) % p then q.2.1 else 0)
def wq_r (p y d : Nat) (q : Nat × Nat × Nat × Nat) : Nat := 1 + ((if d = (y + 1) % p then q.1 else 0) + (if d = (y + 2) % p then q.2.2.1 else 0))
def wq_b (p : Nat) (cs : Nat → Nat) (y d : Nat) (q : Nat × Nat × Nat × Nat) : Nat := if cs ((y + p - 1) % p) = 0 then 0 else if wq_l p y d q = cs ((y + p - 1) % p) then 1 else 0
def wq_z (p y d : Nat) (q : Nat × Nat × Nat × Nat) : Nat := q.2.2.2 - (if d = (y + 1) % p then q.2.2.2 &&& q.2.2.1 else 0)
def wq_a (p : Nat) (cs : Nat → Nat) (y d : Nat) (q : Nat × Nat × Nat × Nat) : Nat := if cs y = 0 then wq_z p y d q else wq_z p y d q - (wq_z p y d q &&& (if wq_r p y d q = cs y then 1 else 0))
def wq (p : Nat) (cs : Nat → Nat) : List Nat → Nat × Nat × Nat × Nat
  | [] => (0, 0, 0, 1)
  | y :: w => match w with
    | [] => (1, 1, 0, 1)
    | d :: _ => (wq_l p y d (wq p cs w), wq_r p y d (wq p cs w), wq_b p cs y d (wq p cs w), wq_a p cs y d (wq p cs w))
def hdw (p : Nat) : List Nat → Nat
  | [] => p
  | d :: _ => d
theorem wq_cons {p : Nat} {cs : Nat → Nat} {y : Nat} {w : List Nat} (h : w ≠ []) : wq p cs (y :: w) = (wq_l p y (hdw p w) (wq p cs w), wq_r p y (hdw p w) (wq p cs w), wq_b p cs y (hdw p w) (wq p cs w), wq_a p cs y (hdw p w) (wq p cs w)) := by
  cases w with
  | nil => exact absurd rfl h
  | cons d w => rfl
theorem wq_le {p : Nat} {cs : Nat → Nat} : ∀ (w : List Nat), (wq p cs w).1 ≤ 2 * w.length ∧ (wq p cs w).2.1 ≤ 2 * w.length ∧ (wq p cs w).2.2.1 ≤ 1 ∧ (wq p cs w).2.2.2 ≤ 1 := by
  intro w
  induction w with
  | nil => exact ⟨Nat.le_refl _, Nat.le_refl _, Nat.zero_le _, Nat.le_refl _⟩
  | cons y w ih =>
    cases w with
    | nil => exact ⟨by show 1 ≤ 2 * 1; omega, by show 1 ≤ 2 * 1; omega, Nat.zero_le _, Nat.le_refl _⟩
    | cons d w =>
      obtain ⟨i1, i2, i3, i4⟩ := ih
      rw [wq_cons (by simp)]
      rw [List.length_cons]
      generalize wq p cs (d :: w) = q at i1 i2 i3 i4 ⊢
      generalize (d :: w).length = n at i1 i2 ⊢
      show wq_l p y d q ≤ _ ∧ wq_r p y d q ≤ _ ∧ wq_b p cs y d q ≤ 1 ∧ wq_a p cs y d q ≤ 1
      refine ⟨?_, ?_, ?_, ?_⟩
      · unfold wq_l
        by_cases c : d = (y + p - 1) % p
        · rw [if_pos c]; omega
        · rw [if_neg c]; omega
      · unfold wq_r
        have a1 : (if d = (y + 1) % p then q.1 else 0) ≤ 2 * n := by
          by_cases c : d = (y + 1) % p
          · rw [if_pos c]; exact i1
          · rw [if_neg c]; omega
        have a2 : (if d = (y + 2) % p then q.2.2.1 else 0) ≤ 1 := by
          by_cases c : d = (y + 2) % p
          · rw [if_pos c]; exact i3
          · rw [if_neg c]; omega
        omega
      · unfold wq_b
        by_cases c : cs ((y + p - 1) % p) = 0
        · rw [if_pos c]; omega
        · rw [if_neg c]
          by_cases c2 : wq_l p y d q = cs ((y + p - 1) % p)
          · rw [if_pos c2]; omega
          · rw [if_neg c2]; omega
      · have z : wq_z p y d q ≤ 1 := Nat.le_trans (Nat.sub_le _ _) i4
        unfold wq_a
        by_cases c : cs y = 0
        · rw [if_pos c]; exact z
        · rw [if_neg c]; exact Nat.le_trans (Nat.sub_le _ _) z
def wid (p : Nat) : List Nat → Nat
  | [] => 0
  | y :: w => (y + 1) + (p + 1) * wid p w
/-- words of k + 1 sides, by their last one -/
def gw (p : Nat) : Nat → Nat → List (List Nat)
  | 0, d => [[d]]
  | k + 1, y => (gcut (gw p k) y p).map (List.cons y)
section LV1
variable {p : Nat} {cs : Nat → Nat}
theorem gw_hd : ∀ (k : Nat) {d : Nat} {w : List Nat}, w ∈ gw p k d → hdw p w = d ∧ w ≠ [] ∧ w.length = k + 1 := by
  intro k
  induction k with
  | zero =>
    intro d w h
    have : w = [d] := List.mem_singleton.mp h
    subst this
    exact ⟨rfl, by simp, rfl⟩
  | succ k ih =>
    intro d w h
    obtain ⟨v, h1, h2⟩ := List.mem_map.mp h
    subst h2
    obtain ⟨e, _, _, e3⟩ := (gcut_mem p).mp h1
    exact ⟨rfl, by simp, by rw [List.length_cons, (ih e3).2.2]⟩
theorem gw_len (hp : 0 < p) : ∀ (k d : Nat), d < p → (gw p k d).length = (p - 1) ^ k := by
  intro k
  induction k with
  | zero => intro d _; rfl
  | succ k ih =>
    intro d hd
    show ((gcut (gw p k) d p).map _).length = _
    rw [List.length_map, gcut_len p (fun e he => ih e he) hd, Nat.pow_succ]
theorem gw_lt : ∀ (k : Nat) {d : Nat} {w : List Nat}, d < p → w ∈ gw p k d → ∀ y, y ∈ w → y < p := by
  intro k
  induction k with
  | zero =>
    intro d w hd h y hy
    have : w = [d] := List.mem_singleton.mp h
    subst this
    rw [List.mem_singleton.mp hy]; exact hd
  | succ k ih =>
    intro d w hd h y hy
    obtain ⟨v, h1, h2⟩ := List.mem_map.mp h
    subst h2
    obtain ⟨e, e1, _, e3⟩ := (gcut_mem p).mp h1
    rcases List.mem_cons.mp hy with c | c
    · rw [c]; exact hd
    · exact ih e1 e3 y c
theorem wid_lt : ∀ (k : Nat) {d : Nat} {w : List Nat}, d < p → w ∈ gw p k d → wid p w < (p + 1) ^ (k + 1) := by
  intro k
  induction k with
  | zero =>
    intro d w hd h
    have : w = [d] := List.mem_singleton.mp h
    subst this
    show (d + 1) + (p + 1) * 0 < (p + 1) ^ 1
    rw [Nat.mul_zero, Nat.pow_one]; omega
  | succ k ih =>
    intro d w hd h
    obtain ⟨v, h1, h2⟩ := List.mem_map.mp h
    subst h2
    obtain ⟨e, e1, _, e3⟩ := (gcut_mem p).mp h1
    have i := ih e1 e3
    show (d + 1) + (p + 1) * wid p v < (p + 1) ^ (k + 1 + 1)
    rw [Nat.pow_succ, Nat.mul_comm ((p + 1) ^ (k + 1))]
    have : (p + 1) * (wid p v + 1) ≤ (p + 1) * (p + 1) ^ (k + 1) := Nat.mul_le_mul_left _ i
    rw [Nat.mul_add] at this
    omega
end LV1
section LV2
variable {α : Type} {l : List α} {f : α → Nat}
theorem ofD_rep (c : Nat) : c * rep 68 l.length = ofD 68 (l.map (fun _ => c)) := (ofD_const (by decide) c l).symm
theorem pfo_of (hf : ∀ w, w ∈ l → f w < 2 ^ 68) : pfo (rep 68 l.length) (ofD 68 (l.map f)) = ofD 68 (l.map (fun w => fo (f w))) := by
  show (ofD 68 (l.map f) &&& 2147483647 * rep 68 l.length) + 5167 * ((ofD 68 (l.map f) >>> 31) &&& 137438953471 * rep 68 l.length) = _
  rw [ofD_rep, ofD_rep, ofD_and _ _ _ hf (fun _ _ => by decide), show (fun _ : α => (137438953471 : Nat)) = (fun _ => 2 ^ (68 - 31) - 1) from rfl, ofD_shr 31 (by decide) f l hf, ofD_mul, ofD_add]
  refine ofD_congr (fun w _ => ?_)
  unfold fo
  rw [show (2147483647 : Nat) = 2 ^ 31 - 1 from rfl, Nat.and_two_pow_sub_one_eq_mod, Nat.shiftRight_eq_div_pow]
theorem peq_dec : ∀ a c : Fin 128, 1 - ((((a.1 ^^^ c.1) + 127) >>> 7) &&& 1) = if a.1 = c.1 then 1 else 0 := by decide +kernel
theorem peq_of {c : Nat} (hc : c < 128) (hf : ∀ w, w ∈ l → f w < 128) : peq (rep 68 l.length) (ofD 68 (l.map f)) c = ofD 68 (l.map (fun w => if f w = c then 1 else 0)) := by
  show rep 68 l.length - ((((ofD 68 (l.map f) ^^^ c * rep 68 l.length) + 127 * rep 68 l.length) >>> 7) &&& rep 68 l.length) = _
  have x8 : ∀ w, w ∈ l → f w ^^^ c < 128 := fun w hw => Nat.xor_lt_two_pow (n := 7) (hf w hw) hc
  have r1 : rep 68 l.length = ofD 68 (l.map (fun _ => 1)) := by rw [← ofD_rep, Nat.one_mul]
  have big : (fun _ : α => (1 : Nat)) = fun _ => (2 ^ (68 - 7) - 1) &&& 1 := rfl
  rw [ofD_rep, ofD_rep, ofD_xor _ _ _ (fun w hw => Nat.lt_trans (hf w hw) (by decide)) (fun _ _ => Nat.lt_trans hc (by decide)), ofD_add, r1]
  have sh : (ofD 68 (l.map (fun w => (f w ^^^ c) + 127)) >>> 7) &&& ofD 68 (l.map (fun _ => 1)) = ofD 68 (l.map (fun w => (((f w ^^^ c) + 127) >>> 7) &&& 1)) := by
    rw [big, ← ofD_and (fun _ => 2 ^ (68 - 7) - 1) (fun _ => 1) l (fun _ _ => by decide) (fun _ _ => by decide), ← Nat.and_assoc, ofD_shr 7 (by decide) _ l (fun w hw => by have := x8 w hw; omega), ofD_and _ _ _ (fun w hw => Nat.lt_of_le_of_lt (Nat.shiftRight_le _ _) (by have := x8 w hw; omega)) (fun _ _ => by decide)]
  rw [sh, ofD_sub _ _ _ (fun w _ => Nat.and_le_right)]
  exact ofD_congr (fun w hw => peq_dec ⟨f w, hf w hw⟩ ⟨c, hc⟩)
/-- sums over sides -/
def ssum (u : Nat → Nat) : List Nat → Nat
  | [] => 0
  | j :: l => u j + ssum u l
theorem ssum_app (u : Nat → Nat) : ∀ l1 l2, ssum u (l1 ++ l2) = ssum u l1 + ssum u l2 := by
  intro l1
  induction l1 with
  | nil => intro l2; show ssum u l2 = 0 + ssum u l2; omega
  | cons x l1 ih => intro l2; show u x + ssum u (l1 ++ l2) = u x + ssum u l1 + ssum u l2; rw [ih]; omega
theorem ssum_range (u : Nat → Nat) : ∀ p, ssum u (List.range p) = sm u p := by
  intro p
  induction p with
  | zero => rfl
  | succ p ih => rw [List.range_succ, ssum_app, ih]; rfl
theorem psm_of {t y : Nat} {u : Nat → Nat} {F : Nat → α → Nat} : ∀ (js : List Nat), psm t y (js.map u) (js.map (fun j => ofD 68 (l.map (F j)))) = ofD 68 (l.map (fun w => ssum (fun j => u j * F j w) js)) := by
  intro js
  induction js with
  | nil =>
    show 0 = ofD 68 (l.map (fun _ => 0))
    rw [← ofD_rep, Nat.zero_mul]
  | cons j js ih =>
    show u j * ofD 68 (l.map (F j)) + psm t y (js.map u) (js.map (fun j => ofD 68 (l.map (F j)))) = _
    rw [ih, ofD_mul, ofD_add]; rfl
end LV2
