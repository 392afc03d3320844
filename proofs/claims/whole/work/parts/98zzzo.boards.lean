/-! ===== all boards of p sides, by their codes ===== -/
def cdr (f : Nat → Nat) : Nat → Nat
  | 0 => 0
  | k + 1 => cdr f k * 9 + f k
def dgt (p x j : Nat) : Nat := x / 9 ^ (p - 1 - j) % 9
theorem dgt_cdr {f : Nat → Nat} : ∀ (p : Nat), (∀ j, j < p → f j < 9) → ∀ j, j < p → dgt p (cdr f p) j = f j := by
  intro p
  induction p with
  | zero => intro _ j h; omega
  | succ p ih =>
    intro h j hj
    show (cdr f p * 9 + f p) / 9 ^ (p + 1 - 1 - j) % 9 = f j
    have hp := h p (by omega)
    by_cases e : j = p
    · subst e
      rw [show j + 1 - 1 - j = 0 by omega, Nat.pow_zero, Nat.div_one]; omega
    · have i := ih (fun i hi => h i (by omega)) j (by omega)
      unfold dgt at i
      rw [show p + 1 - 1 - j = (p - 1 - j) + 1 by omega, Nat.pow_succ, Nat.mul_comm (9 ^ (p - 1 - j)) 9, ← Nat.div_div_eq_div_mul, show (cdr f p * 9 + f p) / 9 = cdr f p by omega]
      exact i
theorem cdr_lt {f : Nat → Nat} : ∀ (p : Nat), (∀ j, j < p → f j < 9) → cdr f p < 9 ^ p := by
  intro p
  induction p with
  | zero => intro _; show 0 < 9 ^ 0; decide
  | succ p ih =>
    intro h
    have i := ih (fun i hi => h i (by omega))
    have hp := h p (by omega)
    show cdr f p * 9 + f p < 9 ^ (p + 1)
    rw [Nat.pow_succ]
    omega
theorem cdr_congr {f g : Nat → Nat} : ∀ (p : Nat), (∀ j, j < p → f j = g j) → cdr f p = cdr g p := by
  intro p
  induction p with
  | zero => intro _; rfl
  | succ p ih => intro h; show cdr f p * 9 + f p = cdr g p * 9 + g p; rw [ih (fun j hj => h j (by omega)), h p (by omega)]
/-- labels by their places: 0, 2, 3, .. 9 -/
def lbl (i : Nat) : Nat := if i = 0 then 0 else i + 1
def lbi (m : Nat) : Nat := if m = 0 then 0 else m - 1
theorem lbl_lbi {m : Nat} (h : m < 10 ∧ m ≠ 1) : lbl (lbi m) = m ∧ lbi m < 9 := by
  unfold lbl lbi
  by_cases c : m = 0
  · rw [if_pos c, if_pos rfl, c]; exact ⟨rfl, by decide⟩
  · rw [if_neg c, if_neg (by omega)]; omega
theorem HN_congr {p : Nat} {cs cs' : Nat → Nat} (hp : 3 ≤ p) (e : ∀ j, j < p → cs' j = cs j) (h : HN p cs') : HN p cs := by
  refine HN_tu (σ := fun y => y) (τ := fun y => y) (fun y hy => ⟨hy, hy, rfl, rfl⟩) (fun y j hy hj => ?_) (fun y y' _ _ c => ?_) (fun ac x a ha hb => ?_) h
  · show an_m p cs' y j = an_m p cs y j
    unfold an_m
    rw [e y hy, e j hj]
  · rcases c with c | c
    · exact Or.inl c
    · exact Or.inr c
  · rw [e a ha]; exact hb a ha
/-- a turned or mirrored code that is less -/
def rtc (p x i : Nat) : Nat := cdr (fun j => dgt p x ((j + i) % p)) p
def mrc (p x i : Nat) : Nat := cdr (fun j => dgt p x ((2 * p - 2 - (j + i) % p) % p)) p
noncomputable def anyB (f : Nat → Bool) (n : Nat) : Bool := Nat.rec (motive := fun _ => Bool) false (fun k ih => f k || ih) n
noncomputable def allB (f : Nat → Bool) (n : Nat) : Bool := Nat.rec (motive := fun _ => Bool) true (fun k ih => f k && ih) n
theorem anyB_t {f : Nat → Bool} : ∀ {n : Nat}, anyB f n = true → ∃ k, k < n ∧ f k = true := by
  intro n
  induction n with
  | zero => intro h; exact absurd h (by show ¬ (false = true); decide)
  | succ n ih =>
    intro h
    have h' : (f n || anyB f n) = true := h
    rcases Bool.or_eq_true_iff.mp h' with c | c
    · exact ⟨n, by omega, c⟩
    · obtain ⟨k, k1, k2⟩ := ih c
      exact ⟨k, by omega, k2⟩
theorem allB_t {f : Nat → Bool} : ∀ {n : Nat}, allB f n = true → ∀ k, k < n → f k = true := by
  intro n
  induction n with
  | zero => intro _ k h; omega
  | succ n ih =>
    intro h k hk
    have h' : (f n && allB f n) = true := h
    rw [Bool.and_eq_true] at h'
    by_cases e : k = n
    · rw [e]; exact h'.1
    · exact ih h'.2 k (by omega)
noncomputable def skp (p x : Nat) : Bool := anyB (fun i => Nat.blt (rtc p x i) x || Nat.blt (mrc p x i) x) p
def lbs (p x : Nat) : List Nat := (List.range p).map (fun j => lbl (dgt p x j))
def cvt (m : Nat) : Nat := (bif Nat.beq m 0 then 2 else bif Nat.beq m 2 then 0 else bif Nat.beq m 3 then 1 else bif Nat.beq m 4 then 2116800879 else bif Nat.beq m 5 then 934417982 else bif Nat.beq m 6 then 1416255067 else bif Nat.beq m 7 then 1026982482 else bif Nat.beq m 8 then 1440523558 else 2080251638)
theorem cvt_eq : ∀ m : Fin 10, m.1 ≠ 1 → cvt m.1 = an_c1 m.1 := by decide +kernel
def lm1 : List Nat := [123456789, 987654321, 192837465, 564738291, 1029384756, 718293645, 1357924680, 1246813579]
def lm2 : List Nat := [1500450271, 86028157, 472882027, 179424691, 982451653, 1299709, 15485867, 674506081]
noncomputable def att (p x : Nat) (l : List (List Nat × Nat × Nat)) : Bool := List.rec (motive := fun _ => Bool) false (fun a _ ih => pful p (lbs p x) ((lbs p x).map cvt) a.1 a.2.1 a.2.2 || ih) l
noncomputable def ckb (l : List (List Nat × Nat × Nat)) (p x : Nat) : Bool := skp p x || att p x l
section BO1
variable {p : Nat}
theorem lbs_get {cs : Nat → Nat} (hcs : ∀ j, j < p → cs j < 10 ∧ cs j ≠ 1) : (∀ y, y < p → (lbs p (cdr (fun j => lbi (cs j)) p)).getD y 0 = cs y) ∧ ∀ y, y < p → ((lbs p (cdr (fun j => lbi (cs j)) p)).map cvt).getD y 2 = an_c1 (cs y) := by
  have d : ∀ y, y < p → lbl (dgt p (cdr (fun j => lbi (cs j)) p) y) = cs y := fun y hy => by
    rw [dgt_cdr p (fun j hj => (lbl_lbi (hcs j hj)).2) y hy]
    exact (lbl_lbi (hcs y hy)).1
  constructor
  · intro y hy
    unfold lbs
    rw [List.getD_eq_getElem?_getD, List.getElem?_map, List.getElem?_range hy]
    exact d y hy
  · intro y hy
    unfold lbs
    rw [List.getD_eq_getElem?_getD, List.getElem?_map, List.getElem?_map, List.getElem?_range hy]
    show cvt (lbl (dgt p (cdr (fun j => lbi (cs j)) p) y)) = _
    rw [d y hy]
    exact cvt_eq ⟨cs y, (hcs y hy).1⟩ (hcs y hy).2
/-- attempts that can be made -/
def atk (p : Nat) (l : List (List Nat × Nat × Nat)) : Prop := ∀ a, a ∈ l → 1 ≤ a.2.2 ∧ a.2.2 ≤ 29 ∧ a.2.1 ≤ 20 ∧ (p + 1) ^ a.2.1 ≤ 2147483648 ∧ pcnt p a.2.1 1 + 1 ≤ 2 ^ a.2.2
theorem att_HN {cs : Nat → Nat} (hp4 : 4 ≤ p) (hp : p ≤ 8) (hcs : ∀ j, j < p → cs j < 10 ∧ cs j ≠ 1) : ∀ (l : List (List Nat × Nat × Nat)), atk p l → att p (cdr (fun j => lbi (cs j)) p) l = true → HN p cs := by
  intro l
  induction l with
  | nil => intro _ h; exact absurd h (by show ¬ (false = true); decide)
  | cons a l ih =>
    intro hl h
    have h' : (pful p (lbs p (cdr (fun j => lbi (cs j)) p)) ((lbs p (cdr (fun j => lbi (cs j)) p)).map cvt) a.1 a.2.1 a.2.2 || att p (cdr (fun j => lbi (cs j)) p) l) = true := h
    rcases Bool.or_eq_true_iff.mp h' with c | c
    · obtain ⟨a1, a2, a3, a4, a5⟩ := hl a List.mem_cons_self
      obtain ⟨g1, g2⟩ := lbs_get hcs
      exact HN_W hp4 hcs (pful_W (by omega) hp hcs g1 g2 a1 a2 a3 a4 a5 c)
    · exact ih (fun b hb => hl b (List.mem_cons_of_mem _ hb)) c
theorem HN_roti {cs : Nat → Nat} (hp : 3 ≤ p) : ∀ (i : Nat), HN p (fun a => cs ((a + i) % p)) → HN p cs := by
  intro i
  induction i with
  | zero =>
    intro h
    exact HN_congr (cs' := fun a => cs ((a + 0) % p)) hp (fun j hj => by show cs ((j + 0) % p) = cs j; rw [Nat.add_zero, Nat.mod_eq_of_lt hj]) h
  | succ i ih =>
    intro h
    refine ih (HN_rot hp (HN_congr (cs' := fun a => cs ((a + (i + 1)) % p)) hp (fun j hj => ?_) h))
    show cs ((j + (i + 1)) % p) = cs (((j + 1) % p + i) % p)
    rw [Nat.mod_add_mod, show j + 1 + i = j + (i + 1) by omega]
/-- all boards out of their checks -/
theorem HN_all (hp4 : 4 ≤ p) (hp : p ≤ 8) {l : List (List Nat × Nat × Nat)} (hl : atk p l) {ex : Nat → Prop} (hex : ∀ x i, ex (rtc p x i) → ex x) (hex2 : ∀ x i, ex (mrc p x i) → ex x) (h : ∀ x, x < 9 ^ p → ¬ ex x → ckb l p x = true) : ∀ (N : Nat) (cs : Nat → Nat), (∀ j, j < p → cs j < 10 ∧ cs j ≠ 1) → cdr (fun j => lbi (cs j)) p < N → ¬ ex (cdr (fun j => lbi (cs j)) p) → HN p cs := by
  intro N
  induction N with
  | zero => intro cs _ h; omega
  | succ N ih =>
    intro cs hcs hN hx
    have d9 : ∀ j, j < p → lbi (cs j) < 9 := fun j hj => (lbl_lbi (hcs j hj)).2
    have c := h _ (cdr_lt p d9) hx
    have c' : (skp p (cdr (fun j => lbi (cs j)) p) || att p (cdr (fun j => lbi (cs j)) p) l) = true := c
    rcases Bool.or_eq_true_iff.mp c' with s | s
    · obtain ⟨i, i1, i2⟩ := anyB_t s
      have m0 : ∀ z, z % p < p := fun z => Nat.mod_lt _ (by omega)
      rcases Bool.or_eq_true_iff.mp i2 with g | g
      · have g' := Nat.le_of_ble_eq_true g
        have e : rtc p (cdr (fun j => lbi (cs j)) p) i = cdr (fun j => lbi ((fun a => cs ((a + i) % p)) j)) p := cdr_congr p (fun j hj => dgt_cdr p d9 _ (m0 _))
        refine HN_roti (by omega) i (ih (fun a => cs ((a + i) % p)) (fun j hj => hcs _ (m0 _)) (by rw [← e]; omega) (fun z => hx (hex _ i (by rw [e]; exact z))))
      · have g' := Nat.le_of_ble_eq_true g
        have e : mrc p (cdr (fun j => lbi (cs j)) p) i = cdr (fun j => lbi ((fun a => cs ((2 * p - 2 - (a + i) % p) % p)) j)) p := cdr_congr p (fun j hj => dgt_cdr p d9 _ (m0 _))
        have q := ih (fun a => cs ((2 * p - 2 - (a + i) % p) % p)) (fun j hj => hcs _ (m0 _)) (by rw [← e]; omega) (fun z => hx (hex2 _ i (by rw [e]; exact z)))
        exact HN_mir (by omega) (HN_roti (cs := fun a => cs ((2 * p - 2 - a) % p)) (by omega) i q)
    · exact att_HN hp4 hp hcs l hl s
end BO1
