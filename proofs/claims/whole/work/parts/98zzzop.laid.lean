/-! ===== three sides: a board is laid by reckoning (3): what the run says ===== -/
def pr : List Nat → Nat → Nat
  | [], X => X
  | a :: u, X => a + 2 ^ 34 * pr u X
theorem pr_app (h X : Nat) : ∀ u : List Nat, pr u (h + 2 ^ 34 * X) = pr (u ++ [h]) X := by
  intro u
  induction u with
  | nil => rfl
  | cons a u ih => show a + 2 ^ 34 * pr u (h + 2 ^ 34 * X) = a + 2 ^ 34 * pr (u ++ [h]) X; rw [ih]
theorem pr_ofD (l : List Nat) : ∀ u : List Nat, pr u (ofD 34 l) = ofD 34 (u ++ l) := by
  intro u
  induction u with
  | nil => rfl
  | cons a u ih => show a + 2 ^ 34 * pr u (ofD 34 l) = a + 2 ^ 34 * ofD 34 (u ++ l); rw [ih]
theorem dg_far {a k Y : Nat} (ha : a < 2 ^ (34 * k)) (i : Nat) : dg (a + 2 ^ (34 * k) * Y) (k + i) = dg Y i := by
  unfold dg
  rw [Nat.mul_add, Nat.shiftRight_add]
  congr 2
  rw [Nat.shiftRight_eq_div_pow, Nat.add_mul_div_left _ _ (Nat.two_pow_pos _), Nat.div_eq_of_lt ha, Nat.zero_add]
theorem dg_near {x Y : Nat} (hx : x < 4294967296) : dg (x + 2 ^ 34 * Y) 0 = x := by
  unfold dg
  rw [Nat.mul_zero, Nat.shiftRight_zero]
  have e : (2 : Nat) ^ 34 = 17179869184 := by decide
  rw [e]
  omega
theorem dg_at : ∀ (u : List Nat) (y : Nat) (l : List Nat), (∀ a, a ∈ u → a < 4294967296) → y < 4294967296 → dg (ofD 34 (u ++ y :: l)) u.length = y := by
  intro u
  induction u with
  | nil => intro y l _ hy; exact dg_near hy
  | cons a u ih =>
    intro y l hu hy
    have h1 := hu a List.mem_cons_self
    have e : ofD 34 (a :: u ++ y :: l) = a + 2 ^ (34 * 1) * ofD 34 (u ++ y :: l) := rfl
    rw [e, List.length_cons, Nat.add_comm u.length 1, dg_far (Nat.lt_trans h1 (by decide))]
    exact ih y l (fun b hb => hu b (List.mem_cons_of_mem _ hb)) hy
noncomputable def PD : Nat := pgat 34 (fun i => Nat.add 2147483648 i) 47
theorem PD_lt : Nat.blt PD (2 ^ (34 * 47)) = true := by decide +kernel
noncomputable def okX (X : Nat) : Bool := nst (Nat.add PD (Nat.shiftLeft X (Nat.mul 34 47))) (fun Y => sw_go 2048 (bt_all 2048 11 0) Y)
theorem okX_no {u l : List Nat} {h : Nat} (hk : okX (ofD 34 (u ++ h :: l)) = true) (hl : u.length + 1 + l.length ≤ 2001) (hb : ∀ a, a ∈ u ++ h :: l → a < 4294967296) : h ∉ l := by
  intro hin
  obtain ⟨a, b, e⟩ := List.append_of_mem hin
  subst e
  have k : sw_go 2048 (bt_all 2048 11 0) (PD + 2 ^ (34 * 47) * ofD 34 (u ++ h :: (a ++ h :: b))) = true := by
    have e : PD + 2 ^ (34 * 47) * ofD 34 (u ++ h :: (a ++ h :: b)) = PD + (ofD 34 (u ++ h :: (a ++ h :: b))) <<< (34 * 47) := by
      rw [Nat.shiftLeft_eq, Nat.mul_comm (2 ^ (34 * 47))]
    rw [e]
    unfold okX at hk
    rw [nst_eq] at hk
    exact hk
  have inj := sw_go_inj (N := 2048) (by decide) (bt_all 2048 11 0) _ (fun s hs => by
    obtain ⟨i, i1, i2⟩ := bt_ok 11 0 s hs
    have i11 : i < 11 := by omega
    rw [i2]
    have : i = 0 ∨ i = 1 ∨ i = 2 ∨ i = 3 ∨ i = 4 ∨ i = 5 ∨ i = 6 ∨ i = 7 ∨ i = 8 ∨ i = 9 ∨ i = 10 := by omega
    rcases this with e | e | e | e | e | e | e | e | e | e | e <;> subst e <;> decide) k
  have pl := blt_iff.mp PD_lt
  have hh : h < 4294967296 := hb h (List.mem_append_right _ List.mem_cons_self)
  have hu : ∀ x, x ∈ u → x < 4294967296 := fun x hx => hb x (List.mem_append_left _ hx)
  have ha : ∀ x, x ∈ a → x < 4294967296 := fun x hx => hb x (List.mem_append_right _ (List.mem_cons_of_mem _ (List.mem_append_left _ hx)))
  have d1 := dg_at u h (a ++ h :: b) hu hh
  have d2 := dg_at (u ++ h :: a) h b (fun x hx => by
    rcases List.mem_append.mp hx with c | c
    · exact hu x c
    · rcases List.mem_cons.mp c with c | c
      · rw [c]; exact hh
      · exact ha x c) hh
  have eL : (u ++ h :: a) ++ h :: b = u ++ h :: (a ++ h :: b) := by rw [List.append_assoc]; rfl
  rw [eL] at d2
  have f1 := dg_far (k := 47) (Y := ofD 34 (u ++ h :: (a ++ h :: b))) pl u.length
  have f2 := dg_far (k := 47) (Y := ofD 34 (u ++ h :: (a ++ h :: b))) pl (u ++ h :: a).length
  rw [d1] at f1
  rw [d2] at f2
  rw [List.length_append, List.length_cons] at f2 hl
  have := inj _ _ (by omega) (by omega) (f1.trans f2.symm)
  omega
def fin (σ : St) : Prop := σ.1 = 2001 ∧ okX σ.2.2.2.2.2 = true
theorem khs_lt (v p : Nat) : khs v p % 2147478481 < 4294967296 := Nat.lt_trans (Nat.mod_lt _ (by decide)) (by decide)
section LD1
variable {p C1 C2 : Nat} {cl : List Nat}
theorem x_ext : ∀ (k n t s A V X : Nat), fin (itr p cl C1 C2 k (n, t, s, A, V, X)) → n ≤ 2001 → ∃ u, okX (pr u X) = true ∧ u.length + n = 2001 ∧ ∀ a, a ∈ u → a < 4294967296 := by
  intro k
  induction k with
  | zero =>
    intro n t s A V X hf _
    exact ⟨[], hf.2, by have : n = 2001 := hf.1; rw [List.length_nil]; omega, fun a ha => absurd ha List.not_mem_nil⟩
  | succ k ih =>
    intro n t s A V X hf hn
    have hf' : fin (itr p cl C1 C2 k (st3 p cl C1 C2 n t s A V X)) := hf
    have one : ∀ n' t' s' A' V', n' = n + 1 → st3 p cl C1 C2 n t s A V X = (n', t', s', A', V', khs (ktv p C1 C2 (fl 256 V t) s) p % 2147478481 + 17179869184 * X) → n' ≤ 2001 → ∃ u, okX (pr u X) = true ∧ u.length + n = 2001 ∧ ∀ a, a ∈ u → a < 4294967296 := fun n' t' s' A' V' e1 e2 e3 => by
      rw [e2] at hf'
      obtain ⟨u, u1, u2, u3⟩ := ih _ _ _ _ _ _ hf' e3
      refine ⟨u ++ [khs (ktv p C1 C2 (fl 256 V t) s) p % 2147478481], ?_, by rw [List.length_append, List.length_singleton]; omega, fun a ha => ?_⟩
      · rw [← pr_app]; exact u1
      · rcases List.mem_append.mp ha with c | c
        · exact u3 a c
        · rw [List.mem_singleton.mp c]; exact khs_lt _ _
    rcases st_cases (p := p) (cl := cl) (C1 := C1) (C2 := C2) (n := n) (t := t) (s := s) (A := A) (V := V) (X := X) with e | ⟨_, e⟩ | ⟨_, _, _, e⟩ | ⟨_, _, _, e⟩ | ⟨h1, _, _, e⟩ | ⟨h1, _, _, _, A3, A4, _, _, e⟩
    · rw [e, itr_er] at hf'
      exact absurd hf'.1 (by show ¬ (0 = 2001); decide)
    · rw [e] at hf'; exact ih _ _ _ _ _ _ hf' hn
    · rw [e] at hf'; exact ih _ _ _ _ _ _ hf' hn
    · rw [e] at hf'; exact ih _ _ _ _ _ _ hf' hn
    · exact one _ _ _ _ _ (by omega) e (by omega)
    · exact one _ _ _ _ _ rfl e (by omega)
/-- within the tiles that are there -/
def CL (p n : Nat) (ac : Nat → Nat → Nat) : Prop := ∀ x y, x < n → y < p → ac x y < 2000 → ac x y < n
theorem CL_j {n f r : Nat} {ac : Nat → Nat → Nat} (h : CL p (n + 1) ac) (hf : f < n) : CL p (n + 1) (ac_j ac f r n) := fun x y hx hy hz => by
  have hz' : (if x = n ∧ y = r then f else if x = f ∧ y = r then n else ac x y) < 2000 := hz
  show (if x = n ∧ y = r then f else if x = f ∧ y = r then n else ac x y) < n + 1
  by_cases c1 : x = n ∧ y = r
  · rw [if_pos c1]; omega
  · rw [if_neg c1] at hz' ⊢
    by_cases c2 : x = f ∧ y = r
    · rw [if_pos c2]; omega
    · rw [if_neg c2] at hz' ⊢
      exact h x y hx hy hz'
theorem jn_ok {n t s g v V A A' r m : Nat} {a : Nat → Nat → Nat} {G : Nat → Nat} (hp : p ≤ 4) (hn : n < 2000) (ht : t < n) (hs : s < p) (hr : r < p) (hT : TA p (n + 1) a G A) (hC : CL p (n + 1) a) (hz : a n r = 2000) (hJ : JN p C1 C2 n t s g v V A r m A') : TA p (n + 1) (ac_jn a (jr a G (s + r) m t r) r n) G A' ∧ CL p (n + 1) (ac_jn a (jr a G (s + r) m t r) r n) ∧ (jr a G (s + r) m t r < 2000 → t < jr a G (s + r) m t r ∧ jr a G (s + r) m t r < n ∧ ¬ a (jr a G (s + r) m t r) r < 2000 ∧ G (jr a G (s + r) m t r) + 1 = g ∧ ktv p C1 C2 (fl 256 V (jr a G (s + r) m t r)) r = v) := by
  have eF : kjr A (s + r) m t r = jr a G (s + r) m t r := by
    rw [kjr_eq (a := s) (b := r) rfl (by omega) (by omega) (show t < 2000 by omega) (Or.inr rfl)]
    refine jr_congr (N := n + 1) (a := s) (b := r) rfl (fun x y hx hy => ?_) (fun x hx => (hT.2.1 x hx).symm) (by omega) (Or.inr rfl)
    have yp : y < p := by omega
    have e := (hT.1 x y hx yp).1
    exact ⟨e.symm, fun z => by rw [← e] at z ⊢; exact hC x y hx yp z⟩
  unfold JN at hJ
  rw [eF] at hJ
  generalize jr a G (s + r) m t r = F at hJ ⊢
  unfold ac_jn
  rcases hJ with ⟨c, h1, h2, h3, h4, h5, h6⟩ | ⟨c, h6⟩
  · rw [if_pos c, h6]
    have z2 : fl 12 A (5 * n + r) = 0 := by
      obtain ⟨e1, e2⟩ := hT.1 n r (by omega) hr
      rw [hz] at e1
      have e1' : 2000 = de (fl 12 A (5 * n + r)) := e1
      exact (de_lt e2).2.1 (by omega)
    refine ⟨TA_jn hp hT hn h2 hr h3 z2, CL_j hC h2, fun _ => ⟨h1, h2, ?_, ?_, h5⟩⟩
    · rw [(hT.1 F r (by omega) hr).1]
      show ¬ de (fl 12 A (5 * F + r)) < 2000
      rw [h3]
      exact Nat.lt_irrefl 2000
    · rw [hT.2.1 F (by omega)]; exact h4
  · rw [if_neg c, h6]
    exact ⟨hT, hC, fun z => absurd z c⟩
end LD1
/-! the new tile, and all that holds -/
def TV (p n : Nat) (V1 V2 : Nat → Nat → Nat) (V : Nat) : Prop := (∀ x j, x < n → j < p → V1 x j = fl 32 (fl 256 V x) j ∧ V2 x j = fl 32 (fl 256 V x) (4 + j)) ∧ ∀ i, n ≤ i → fl 256 V i = 0
def hl (H : Nat → Nat) : Nat → List Nat
  | 0 => []
  | k + 1 => H k :: hl H k
theorem hl_len (H : Nat → Nat) : ∀ n, (hl H n).length = n := by
  intro n
  induction n with
  | zero => rfl
  | succ n ih => show (hl H n).length + 1 = n + 1; rw [ih]
theorem hl_mem {H : Nat → Nat} {x : Nat} : ∀ n, x < n → H x ∈ hl H n := by
  intro n
  induction n with
  | zero => intro h; omega
  | succ n ih =>
    intro h
    by_cases e : x = n
    · rw [e]; exact List.mem_cons_self
    · exact List.mem_cons_of_mem _ (ih (by omega))
theorem hl_all {H : Nat → Nat} {a : Nat} : ∀ n, a ∈ hl H n → ∃ x, a = H x := by
  intro n
  induction n with
  | zero => intro h; exact absurd h List.not_mem_nil
  | succ n ih =>
    intro h
    rcases List.mem_cons.mp h with e | e
    · exact ⟨n, e⟩
    · exact ih e
theorem hl_congr {H H' : Nat → Nat} : ∀ n, (∀ x, x < n → H x = H' x) → hl H n = hl H' n := by
  intro n
  induction n with
  | zero => intro _; rfl
  | succ n ih => intro h; show H n :: hl H n = H' n :: hl H' n; rw [h n (Nat.lt_succ_self n), ih (fun x hx => h x (by omega))]
section LD2
variable {p n t s : Nat} {ac : Nat → Nat → Nat} {rg : Nat → Nat} {cs : Nat → Nat} {V1 V2 : Nat → Nat → Nat}
theorem pg_new (hp3 : 3 ≤ p) (hg : pg_g p n ac rg) (ht : t < n) (hn : n < 2000) (hs : s < p) (ha : ¬ ac t s < 2000) (hrg : ∀ x, x < n → rg x ≤ rg t + 1) (pf1 : pg_f ac n t (nb_f1 p cs ac rg n t s) ((s + 1) % p)) (pf2 : pg_f ac n t (nb_f2 p cs ac rg n t s) ((s + p - 1) % p)) (rf1 : nb_f1 p cs ac rg n t s < 2000 → rg (nb_f1 p cs ac rg n t s) = rg t) (rf2 : nb_f2 p cs ac rg n t s < 2000 → rg (nb_f2 p cs ac rg n t s) = rg t)
    (hV : ∀ x y, x < n → y < p → x < ac x y → ac x y < 2000 → rv_e p (V1 (ac x y)) (V2 (ac x y)) (rv_w1 p cs V1 x y) (rv_w2 p cs V2 x y))
    (vf1 : nb_f1 p cs ac rg n t s < 2000 → rv_e p (rv_w1 p cs V1 t s) (rv_w2 p cs V2 t s) (rv_w1 p cs V1 (nb_f1 p cs ac rg n t s) ((s + 1) % p)) (rv_w2 p cs V2 (nb_f1 p cs ac rg n t s) ((s + 1) % p)))
    (vf2 : nb_f2 p cs ac rg n t s < 2000 → rv_e p (rv_w1 p cs V1 t s) (rv_w2 p cs V2 t s) (rv_w1 p cs V1 (nb_f2 p cs ac rg n t s) ((s + p - 1) % p)) (rv_w2 p cs V2 (nb_f2 p cs ac rg n t s) ((s + p - 1) % p))) :
    pg_g p (n + 1) (nb_a4 p cs ac rg n t s) (nb_rg rg n t) ∧ (∀ x y, x < n → y < p → ac x y < 2000 → nb_a4 p cs ac rg n t s x y = ac x y) ∧ nb_a4 p cs ac rg n t s t s = n ∧ ∀ x y, x < n + 1 → y < p → x < nb_a4 p cs ac rg n t s x y → nb_a4 p cs ac rg n t s x y < 2000 → rv_e p (rv_u V1 n (rv_w1 p cs V1 t s) (nb_a4 p cs ac rg n t s x y)) (rv_u V2 n (rv_w2 p cs V2 t s) (nb_a4 p cs ac rg n t s x y)) (rv_w1 p cs (rv_u V1 n (rv_w1 p cs V1 t s)) x y) (rv_w2 p cs (rv_u V2 n (rv_w2 p cs V2 t s)) x y) := by
  obtain ⟨o1, o2, o3, o4, o5⟩ := nb_sides hp3 hs
  have hAx : ∀ x y, x < n → nb_a4 p cs ac rg n t s x y = if (nb_f2 p cs ac rg n t s < 2000 ∧ x = nb_f2 p cs ac rg n t s ∧ y = (s + p - 1) % p) ∨ (nb_f1 p cs ac rg n t s < 2000 ∧ x = nb_f1 p cs ac rg n t s ∧ y = (s + 1) % p) ∨ (x = t ∧ y = s) then n else ac x y := fun x y hx => nb_a4_x ht hn hx
  have hAn : ∀ y, nb_a4 p cs ac rg n t s n y = if nb_f2 p cs ac rg n t s < 2000 ∧ y = (s + p - 1) % p then nb_f2 p cs ac rg n t s else if nb_f1 p cs ac rg n t s < 2000 ∧ y = (s + 1) % p then nb_f1 p cs ac rg n t s else if y = s then t else 2000 := fun y => nb_a4_n ht pf1 pf2 hn
  have rgx : ∀ x, x < n → nb_rg rg n t x = rg x := fun x hx => if_neg (by omega)
  have rgn : nb_rg rg n t n = rg t + 1 := if_pos rfl
  generalize nb_f1 p cs ac rg n t s = F1 at *
  generalize nb_f2 p cs ac rg n t s = F2 at *
  generalize nb_a4 p cs ac rg n t s = A at *
  generalize nb_rg rg n t = G at *
  generalize (s + 1) % p = r1 at *
  generalize (s + p - 1) % p = r2 at *
  have cnd : ∀ x y, x < n → (F2 < 2000 ∧ x = F2 ∧ y = r2) ∨ (F1 < 2000 ∧ x = F1 ∧ y = r1) ∨ (x = t ∧ y = s) → ¬ ac x y < 2000 ∧ A n y = x ∧ rg x = rg t ∧ rv_e p (rv_w1 p cs V1 t s) (rv_w2 p cs V2 t s) (rv_w1 p cs V1 x y) (rv_w2 p cs V2 x y) := fun x y hx c => by
    rcases c with ⟨c1, c2, c3⟩ | ⟨c1, c2, c3⟩ | ⟨c1, c2⟩
    · refine ⟨by rw [c2, c3]; exact (pf2 c1).2.2, ?_, by rw [c2]; exact rf2 c1, by rw [c2, c3]; exact vf2 c1⟩
      rw [hAn y, if_pos ⟨c1, c3⟩, c2]
    · refine ⟨by rw [c2, c3]; exact (pf1 c1).2.2, ?_, by rw [c2]; exact rf1 c1, by rw [c2, c3]; exact vf1 c1⟩
      rw [hAn y, if_neg (fun z => o3 (c3.symm.trans z.2)), if_pos ⟨c1, c3⟩, c2]
    · refine ⟨by rw [c1, c2]; exact ha, ?_, by rw [c1], by rw [c1, c2]; exact fun _ _ => ⟨rfl, rfl⟩⟩
      rw [hAn y, if_neg (fun z => o2 (z.2.symm.trans c2)), if_neg (fun z => o1 (z.2.symm.trans c2)), if_pos c2, c1]
  have old : ∀ x y, x < n → y < p → ac x y < 2000 → A x y = ac x y := fun x y hx hy hz => by
    rw [hAx x y hx, if_neg]
    exact fun c => (cnd x y hx c).1 hz
  have nbn : ∀ y, A n y < 2000 → A n y < n ∧ A (A n y) y = n ∧ rg (A n y) = rg t := fun y hz => by
    rw [hAn y] at hz ⊢
    by_cases c2 : F2 < 2000 ∧ y = r2
    · rw [if_pos c2]
      refine ⟨(pf2 c2.1).2.1, ?_, rf2 c2.1⟩
      rw [hAx F2 y (pf2 c2.1).2.1, if_pos (Or.inl ⟨c2.1, rfl, c2.2⟩)]
    · rw [if_neg c2] at hz ⊢
      by_cases c1 : F1 < 2000 ∧ y = r1
      · rw [if_pos c1]
        refine ⟨(pf1 c1.1).2.1, ?_, rf1 c1.1⟩
        rw [hAx F1 y (pf1 c1.1).2.1, if_pos (Or.inr (Or.inl ⟨c1.1, rfl, c1.2⟩))]
      · rw [if_neg c1] at hz ⊢
        by_cases c0 : y = s
        · rw [if_pos c0]
          refine ⟨ht, ?_, rfl⟩
          rw [hAx t y ht, if_pos (Or.inr (Or.inr ⟨rfl, c0⟩))]
        · rw [if_neg c0] at hz; omega
  have et : A t s = n := by rw [hAx t s ht, if_pos (Or.inr (Or.inr ⟨rfl, rfl⟩))]
  refine ⟨⟨fun x y hx hy hz => ?_, fun x u hxu hu => ?_⟩, old, et, fun x y hx hy hl hz => ?_⟩
  · by_cases e : x = n
    · subst e
      obtain ⟨g1, g2, g3⟩ := nbn y hz
      refine ⟨by omega, g2, Or.inr ?_⟩
      rw [rgn, rgx _ g1, g3]
    · have hx' : x < n := by omega
      by_cases c : (F2 < 2000 ∧ x = F2 ∧ y = r2) ∨ (F1 < 2000 ∧ x = F1 ∧ y = r1) ∨ (x = t ∧ y = s)
      · have eA : A x y = n := by rw [hAx x y hx', if_pos c]
        obtain ⟨_, q2, q3, _⟩ := cnd x y hx' c
        rw [eA]
        refine ⟨Nat.lt_succ_self n, q2, Or.inl ?_⟩
        rw [rgn, rgx x hx', q3]
      · have eA : A x y = ac x y := by rw [hAx x y hx', if_neg c]
        rw [eA] at hz ⊢
        obtain ⟨g1, g2, g3⟩ := hg.1 x y hx' hy hz
        refine ⟨by omega, ?_, ?_⟩
        · rw [old _ y g1 hy (by rw [g2]; omega)]; exact g2
        · rw [rgx _ g1, rgx x hx']; exact g3
  · by_cases e : u = n
    · subst e
      by_cases e2 : x = u
      · rw [e2]; exact Nat.le_refl _
      · rw [rgn, rgx x (by omega)]; exact hrg x (by omega)
    · rw [rgx u (by omega), rgx x (by omega)]; exact hg.2 x u hxu (by omega)
  · by_cases e : x = n
    · subst e
      have := (nbn y hz).1
      omega
    · have hx' : x < n := by omega
      rw [rv_w1_u hx', rv_w2_u hx']
      by_cases c : (F2 < 2000 ∧ x = F2 ∧ y = r2) ∨ (F1 < 2000 ∧ x = F1 ∧ y = r1) ∨ (x = t ∧ y = s)
      · have eA : A x y = n := by rw [hAx x y hx', if_pos c]
        rw [eA]
        have u1 : rv_u V1 n (rv_w1 p cs V1 t s) n = rv_w1 p cs V1 t s := if_pos rfl
        have u2 : rv_u V2 n (rv_w2 p cs V2 t s) n = rv_w2 p cs V2 t s := if_pos rfl
        rw [u1, u2]
        exact (cnd x y hx' c).2.2.2
      · have eA : A x y = ac x y := by rw [hAx x y hx', if_neg c]
        rw [eA] at hz hl ⊢
        have g1 := (hg.1 x y hx' hy hz).1
        have u1 : rv_u V1 n (rv_w1 p cs V1 t s) (ac x y) = V1 (ac x y) := if_neg (by omega)
        have u2 : rv_u V2 n (rv_w2 p cs V2 t s) (ac x y) = V2 (ac x y) := if_neg (by omega)
        rw [u1, u2]
        exact hV x y hx' hy hl hz
end LD2
