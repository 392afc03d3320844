/-! ===== five sides, the last corner without a label: words of at most five sides ===== -/
noncomputable def atc (p x : Nat) (l : List (List Nat × Nat × Nat)) : Bool := List.rec (motive := fun _ => Bool) false (fun a _ ih => pchk p (lbs p x) ((lbs p x).map cvt) a.1 a.2.1 a.2.2 || ih) l
def at5c : List (List Nat × Nat × Nat) := [(lm1, 5, 11), (lm2, 5, 11)]
noncomputable def c5b (lo n : Nat) : Bool := allB (fun k => atc 5 (Nat.mul 9 (Nat.add lo k)) at5c) n
theorem atc_inj {p : Nat} {cs : Nat → Nat} (hp3 : 3 ≤ p) (hp : p ≤ 8) (hcs : ∀ j, j < p → cs j < 10 ∧ cs j ≠ 1) : ∀ (l : List (List Nat × Nat × Nat)), (∀ a, a ∈ l → a.2.1 = 5 ∧ 1 ≤ a.2.2 ∧ a.2.2 ≤ 29 ∧ (p + 1) ^ 5 ≤ 2147483648 ∧ pcnt p 5 1 + 1 ≤ 2 ^ a.2.2) → atc p (cdr (fun j => lbi (cs j)) p) l = true → ∀ (w w' : List Nat) (q q' : wd_q), wd_t p cs w = some q → wd_t p cs w' = some q' → w.length ≤ 5 → w'.length ≤ 5 → (∀ j, j < p → wd_v p cs w j = wd_v p cs w' j) → w = w' := by
  intro l
  induction l with
  | nil => intro _ h; exact absurd h (by show ¬ (false = true); decide)
  | cons a l ih =>
    intro hl h
    have h' : (pchk p (lbs p (cdr (fun j => lbi (cs j)) p)) ((lbs p (cdr (fun j => lbi (cs j)) p)).map cvt) a.1 a.2.1 a.2.2 || atc p (cdr (fun j => lbi (cs j)) p) l) = true := h
    rcases Bool.or_eq_true_iff.mp h' with c | c
    · obtain ⟨a1, a2, a3, a4, a5⟩ := hl a List.mem_cons_self
      obtain ⟨g1, g2⟩ := lbs_get hcs
      rw [a1] at c
      exact pchk_inj hp3 hp hcs g1 g2 a2 a3 (by decide) a4 a5 c
    · exact ih (fun b hb => hl b (List.mem_cons_of_mem _ hb)) c
/-- vectors out of numbers of steps -/
theorem dn_wv {p : Nat} {cs : Nat → Nat} (hp3 : 3 ≤ p) (hp : p ≤ 8) {w w' : List Nat} (hw : ∀ y, y ∈ w → y < p) (hw' : ∀ y, y ∈ w' → y < p) (h : ∀ i, i < p → cg an_P1 (dn p cs w i) (dn p cs w' i)) : ∀ j, j < p → wd_v p cs w j = wd_v p cs w' j := by
  have vlt : ∀ (w : List Nat) j, wd_v p cs w j < an_P1 := fun w j => by
    cases w with
    | nil => show 1 < an_P1; decide
    | cons z w => exact tn_r_lt (by decide) _ _ _ _
  intro j hj
  refine cg_eq (vlt w j) (vlt w' j) (cg_trans (dn_v hp3 hp w hw j hj) (cg_trans ?_ (cg_symm (dn_v hp3 hp w' hw' j hj))))
  exact cg_add (cg_refl _ _) (sI_cg (fun i hi => cg_mul _ (h i hi)))
theorem cdr_last {f : Nat → Nat} (h : f 4 = 0) : cdr f 5 = 9 * cdr f 4 := by
  show cdr f 4 * 9 + f 4 = _
  rw [h]; omega
theorem INJ_5 (hck : ∀ x, x < 6561 → atc 5 (9 * x) at5c = true) {cs : Nat → Nat} (hcs : ∀ j, j < 5 → cs j < 10 ∧ cs j ≠ 1) (h4 : cs 4 = 0) : INJ 5 cs := by
  intro w w' q q' h h' l l' he
  have d9 : ∀ j, j < 4 → lbi (cs j) < 9 := fun j hj => (lbl_lbi (hcs j (by omega))).2
  have c := hck _ (cdr_lt 4 d9)
  rw [← cdr_last (f := fun j => lbi (cs j)) (by show lbi (cs 4) = 0; rw [h4]; rfl)] at c
  refine atc_inj (by decide) (by decide) hcs at5c (fun a ha => ?_) c w w' q q' h h' l l' (dn_wv (by decide) (by decide) (wd_let w q h) (wd_let w' q' h') he)
  unfold at5c at ha
  rcases List.mem_cons.mp ha with e | ha
  · rw [e]; decide
  · rcases List.mem_cons.mp ha with e | ha
    · rw [e]; decide
    · exact absurd ha List.not_mem_nil
