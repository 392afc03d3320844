/-! ===== three sides: a board is laid by reckoning (4): a board is known by its run ===== -/
def IV (p : Nat) (cs : Nat → Nat) (n : Nat) (ac : Nat → Nat → Nat) (rg : Nat → Nat) (V1 V2 : Nat → Nat → Nat) (t s A V X : Nat) : Prop := (t < n ∧ n ≤ 2000 ∧ s ≤ p ∧ pg_g p n ac rg) ∧ ((∀ x y, x < t → y < p → ac x y < 2000) ∧ (∀ y, y < s → ac t y < 2000) ∧ ∀ x, x < n → rg x ≤ rg t + 1 ∧ rg x < 63) ∧ (∀ x y, x < n → y < p → x < ac x y → ac x y < 2000 → rv_e p (V1 (ac x y)) (V2 (ac x y)) (rv_w1 p cs V1 x y) (rv_w2 p cs V2 x y)) ∧ TA p n ac rg A ∧ TV p n V1 V2 V ∧ X = ofD 34 (hl (fun x => hV p (V1 x)) n)
def QR (p : Nat) (cs : Nat → Nat) (cl : List Nat) (C1 C2 : Nat) : pg_Q := fun n ac rg V1 V2 t s => ∃ k A V X, fin (itr p cl C1 C2 k (n, t, s, A, V, X)) ∧ IV p cs n ac rg V1 V2 t s A V X
section QR1
variable {p C1 C2 : Nat} {cl : List Nat} {cs : Nat → Nat}
/-- one step of the run -/
theorem qr_step {k n t s A V X : Nat} (h : fin (itr p cl C1 C2 k (n, t, s, A, V, X))) (hn : n ≤ 2000) : ∃ k', fin (itr p cl C1 C2 k' (st3 p cl C1 C2 n t s A V X)) ∧ st3 p cl C1 C2 n t s A V X ≠ er := by
  cases k with
  | zero => have : n = 2001 := h.1; omega
  | succ k =>
    have h' : fin (itr p cl C1 C2 k (st3 p cl C1 C2 n t s A V X)) := h
    refine ⟨k, h', fun e => ?_⟩
    rw [e, itr_er] at h'
    exact absurd h'.1 (by show ¬ (0 = 2001); decide)
theorem hV_lt (p : Nat) (V : Nat → Nat) : hV p V < 4294967296 := Nat.lt_trans (Nat.mod_lt _ (by decide)) (by decide)
/-- no tile has the vector that the run makes next -/
theorem qr_no {k n t s V X n' t' s' A' V' : Nat} {V1 V2 : Nat → Nat → Nat} (hp : p ≤ 4) (hC : CW p cs C1 C2) (hs : s < p) (htn : t < n) (hn : n ≤ 2000) (hT : TV p n V1 V2 V) (hX : X = ofD 34 (hl (fun x => hV p (V1 x)) n)) (e1 : n' = n + 1) (hf : fin (itr p cl C1 C2 k (n', t', s', A', V', khs (ktv p C1 C2 (fl 256 V t) s) p % 2147478481 + 17179869184 * X))) : ∀ u, u < n → ¬ rv_e p (V1 u) (V2 u) (rv_w1 p cs V1 t s) (rv_w2 p cs V2 t s) := by
  intro u hu he
  obtain ⟨l, l1, l2, l3⟩ := x_ext k _ _ _ _ _ _ hf (by omega)
  obtain ⟨_, kt⟩ := ktv_ok hp hC hs (V1 := V1 t) (V2 := V2 t) (fun j hj => hT.1 t j htn hj)
  have hh : khs (ktv p C1 C2 (fl 256 V t) s) p % 2147478481 = hV p (V1 u) := by
    rw [khs_eq p (V := V1 u) (fun j hj => ((he j hj).1.trans (kt j hj).1))]
    rfl
  have l1' : okX (ofD 34 (l ++ khs (ktv p C1 C2 (fl 256 V t) s) p % 2147478481 :: hl (fun x => hV p (V1 x)) n)) = true := by
    rw [← pr_ofD]
    rw [hX] at l1
    exact l1
  refine okX_no l1' (by rw [hl_len]; omega) (fun a ha => ?_) ?_
  · rcases List.mem_append.mp ha with c | c
    · exact l3 a c
    · rcases List.mem_cons.mp c with c | c
      · rw [c]; exact khs_lt _ _
      · obtain ⟨x, e⟩ := hl_all n c
        rw [e]; exact hV_lt _ _
  · rw [hh]
    exact hl_mem (H := fun x => hV p (V1 x)) n hu
theorem TV_new {n t s V : Nat} {V1 V2 : Nat → Nat → Nat} (hp : p ≤ 4) (hC : CW p cs C1 C2) (hs : s < p) (ht : t < n) (hT : TV p n V1 V2 V) : TV p (n + 1) (rv_u V1 n (rv_w1 p cs V1 t s)) (rv_u V2 n (rv_w2 p cs V2 t s)) (fp 256 V (ktv p C1 C2 (fl 256 V t) s) n) := by
  obtain ⟨k1, k2⟩ := ktv_ok hp hC hs (V1 := V1 t) (V2 := V2 t) (fun j hj => hT.1 t j ht hj)
  have q := fl_put0 (w := 256) k1 (hT.2 n (Nat.le_refl n))
  refine ⟨fun x j hx hj => ?_, fun i hi => ?_⟩
  · rw [q]
    unfold rv_u
    by_cases c : x = n
    · rw [if_pos c, if_pos c, if_pos c]
      exact k2 j hj
    · rw [if_neg c, if_neg c, if_neg c]
      exact hT.1 x j (by omega) hj
  · rw [q, if_neg (by omega)]
    exact hT.2 i (by omega)
theorem QR_ok (hp3 : 3 ≤ p) (hp : p ≤ 4) (hcl : ∀ y, y < p → cl.getD y 0 = cs y) (hC : CW p cs C1 C2) (h0 : QR p cs cl C1 C2 1 (fun _ _ => 2000) (fun _ => 0) (fun _ _ => 1) (fun _ _ => 1) 0 0) : pg_ok p cs (QR p cs cl C1 C2) := by
  refine ⟨h0, ?_⟩
  intro n ac rg V1 V2 t s hq
  obtain ⟨k, A, V, X, hf, ⟨i1, i2, i3, i4⟩, ⟨j1, j2, j3⟩, hVV, hA, hT, hX⟩ := hq
  obtain ⟨k', hf', hne⟩ := qr_step hf i2
  have sc := st_cases (p := p) (cl := cl) (C1 := C1) (C2 := C2) (n := n) (t := t) (s := s) (A := A) (V := V) (X := X)
  refine ⟨⟨i1, i4, (j3 t i1).2, j1⟩, fun es => ?_, fun hs ha => ?_, fun hs ha => ?_⟩
  · -- the next tile
    rcases sc with e | ⟨c, _⟩ | ⟨_, _, c3, e⟩ | ⟨_, c, _⟩ | ⟨_, c, _⟩ | ⟨_, c, _⟩
    · exact absurd e hne
    · omega
    · rw [e] at hf'
      refine ⟨k', A, V, X, hf', ⟨c3, i2, Nat.zero_le _, i4⟩, ⟨fun x y hx hy => ?_, fun y hy => absurd hy (Nat.not_lt_zero y), fun x hx => ?_⟩, hVV, hA, hT, hX⟩
      · by_cases c : x < t
        · exact j1 x y c hy
        · rw [show x = t by omega]; exact j2 y (by omega)
      · have m := i4.2 t (t + 1) (by omega) c3
        have := j3 x hx
        omega
    · exact absurd es c
    · exact absurd es c
    · exact absurd es c
  · -- a neighbour is there
    refine ⟨fun hlt => hVV t s i1 hs hlt ha, ?_⟩
    obtain ⟨a1, a2⟩ := hA.1 t s i1 hs
    have a3 : fl 12 A (5 * t + s) ≠ 0 := by
      rw [a1] at ha
      exact (de_lt a2).1.mp ha
    rcases sc with e | ⟨c, _⟩ | ⟨_, c, _⟩ | ⟨_, _, _, e⟩ | ⟨_, _, c, _⟩ | ⟨_, _, c, _⟩
    · exact absurd e hne
    · omega
    · omega
    · rw [e] at hf'
      refine ⟨k', A, V, X, hf', ⟨i1, i2, by omega, i4⟩, ⟨j1, fun y hy => ?_, j3⟩, hVV, hA, hT, hX⟩
      by_cases c : y < s
      · exact j2 y c
      · rw [show y = s by omega]; exact ha
    · exact absurd c a3
    · exact absurd c a3
  · -- none is there
    obtain ⟨a1, a2⟩ := hA.1 t s i1 hs
    have a3 : fl 12 A (5 * t + s) = 0 := by
      rw [a1] at ha
      exact (de_lt a2).2.1 ha
    rcases sc with e | ⟨c, _⟩ | ⟨_, c, _⟩ | ⟨_, _, c, _⟩ | ⟨c, _, _, e⟩ | ⟨c, _, _, c6, A3, A4, n3, n4, e⟩
    · exact absurd e hne
    · omega
    · omega
    · exact absurd a3 c
    · rw [e] at hf'
      exact ⟨qr_no hp hC hs i1 i2 hT hX (by omega) hf', fun z => absurd z (by omega)⟩
    · rw [e] at hf'
      refine ⟨qr_no hp hC hs i1 i2 hT hX rfl hf', fun hn => ?_⟩
      obtain ⟨o1, o2, o3, o4, o5⟩ := nb_sides hp3 hs
      have rgt : rg t = kg A t := hA.2.1 t i1
      have rgx : ∀ x, x < n → nb_rg rg n t x = rg x := fun x hx => if_neg (by omega)
      -- the first join
      have T2 := TA_new (g := kg A t + 1) hp hA hn i1 hs (by rw [rgt]) c6 a3
      have C2' : CL p (n + 1) (nb_a2 ac n t s) := by
        have e2 : nb_a2 ac n t s = ac_j (fun x y => if x = n then 2000 else ac x y) t s n := by
          unfold nb_a2 ac_jn
          rw [if_pos (show t < 2000 by omega)]
        rw [e2]
        refine CL_j (fun x y hx hy hz => ?_) i1
        have hz' : (if x = n then 2000 else ac x y) < 2000 := hz
        show (if x = n then 2000 else ac x y) < n + 1
        by_cases c : x = n
        · rw [if_pos c] at hz'; omega
        · rw [if_neg c] at hz' ⊢
          have := (i4.1 x y (by omega) hy hz').1
          omega
      have an2 : ∀ y, y ≠ s → nb_a2 ac n t s n y = 2000 := fun y hy => by
        unfold nb_a2 ac_jn
        rw [if_pos (show t < 2000 by omega)]
        show (if n = n ∧ y = s then t else if n = t ∧ y = s then n else if n = n then 2000 else ac n y) = 2000
        rw [if_neg (fun z => hy z.2), if_neg (fun z => hy z.2), if_pos rfl]
      rw [hcl s hs] at n3
      rw [hcl _ o5] at n4
      obtain ⟨T3, C3, f1⟩ := jn_ok hp hn i1 hs o4 T2 C2' (an2 _ o1) n3
      have T3' : TA p (n + 1) (nb_a3 p cs ac rg n t s) (nb_rg rg n t) A3 := T3
      have C3' : CL p (n + 1) (nb_a3 p cs ac rg n t s) := C3
      have f1' : nb_f1 p cs ac rg n t s < 2000 → t < nb_f1 p cs ac rg n t s ∧ nb_f1 p cs ac rg n t s < n ∧ ¬ nb_a2 ac n t s (nb_f1 p cs ac rg n t s) ((s + 1) % p) < 2000 ∧ nb_rg rg n t (nb_f1 p cs ac rg n t s) + 1 = kg A t + 1 ∧ ktv p C1 C2 (fl 256 V (nb_f1 p cs ac rg n t s)) ((s + 1) % p) = ktv p C1 C2 (fl 256 V t) s := f1
      have an3 : nb_a3 p cs ac rg n t s n ((s + p - 1) % p) = 2000 := by
        unfold nb_a3 ac_jn
        by_cases c : nb_f1 p cs ac rg n t s < 2000
        · rw [if_pos c]
          show (if n = n ∧ (s + p - 1) % p = (s + 1) % p then _ else if n = nb_f1 p cs ac rg n t s ∧ (s + p - 1) % p = (s + 1) % p then n else nb_a2 ac n t s n ((s + p - 1) % p)) = 2000
          rw [if_neg (fun z => o3 z.2.symm), if_neg (fun z => o3 z.2.symm)]
          exact an2 _ o2
        · rw [if_neg c]; exact an2 _ o2
      obtain ⟨T4, C4, f2⟩ := jn_ok hp hn i1 hs o5 T3' C3' an3 n4
      have T4' : TA p (n + 1) (nb_a4 p cs ac rg n t s) (nb_rg rg n t) A4 := T4
      have f2' : nb_f2 p cs ac rg n t s < 2000 → t < nb_f2 p cs ac rg n t s ∧ nb_f2 p cs ac rg n t s < n ∧ ¬ nb_a3 p cs ac rg n t s (nb_f2 p cs ac rg n t s) ((s + p - 1) % p) < 2000 ∧ nb_rg rg n t (nb_f2 p cs ac rg n t s) + 1 = kg A t + 1 ∧ ktv p C1 C2 (fl 256 V (nb_f2 p cs ac rg n t s)) ((s + p - 1) % p) = ktv p C1 C2 (fl 256 V t) s := f2
      have pf1 : pg_f ac n t (nb_f1 p cs ac rg n t s) ((s + 1) % p) := fun z => by
        obtain ⟨q1, q2, q3, _⟩ := f1' z
        refine ⟨q1, q2, fun zz => q3 ?_⟩
        rw [nb_a2_x i1 hn q2, if_neg (fun w => o1 w.2)]
        exact zz
      have pf2 : pg_f ac n t (nb_f2 p cs ac rg n t s) ((s + p - 1) % p) := fun z => by
        obtain ⟨q1, q2, q3, _⟩ := f2' z
        refine ⟨q1, q2, fun zz => q3 ?_⟩
        rw [nb_a3_x i1 hn q2, if_neg (fun w => by
          rcases w with w | w
          · exact o3 w.2.2.symm
          · exact o2 w.2)]
        exact zz
      -- vectors alike
      have vv : ∀ f r, f < n → r < p → ktv p C1 C2 (fl 256 V f) r = ktv p C1 C2 (fl 256 V t) s → rv_e p (rv_w1 p cs V1 t s) (rv_w2 p cs V2 t s) (rv_w1 p cs V1 f r) (rv_w2 p cs V2 f r) := fun f r hfn hr ek j hj => by
        obtain ⟨_, m1⟩ := ktv_ok hp hC hs (V1 := V1 t) (V2 := V2 t) (fun j hj => hT.1 t j i1 hj)
        obtain ⟨_, m2⟩ := ktv_ok hp hC hr (V1 := V1 f) (V2 := V2 f) (fun j hj => hT.1 f j hfn hj)
        rw [ek] at m2
        exact ⟨(m1 j hj).1.trans (m2 j hj).1.symm, (m1 j hj).2.trans (m2 j hj).2.symm⟩
      obtain ⟨g1, g2, g3, g4⟩ := pg_new (cs := cs) hp3 i4 i1 hn hs ha (fun x hx => (j3 x hx).1) pf1 pf2 (fun z => by
        obtain ⟨_, q2, _, q4, _⟩ := f1' z
        rw [rgx _ q2] at q4
        omega) (fun z => by
        obtain ⟨_, q2, _, q4, _⟩ := f2' z
        rw [rgx _ q2] at q4
        omega) hVV (fun z => by
        obtain ⟨_, q2, _, _, q5⟩ := f1' z
        exact vv _ _ q2 o4 q5) (fun z => by
        obtain ⟨_, q2, _, _, q5⟩ := f2' z
        exact vv _ _ q2 o5 q5)
      refine ⟨pf1, pf2, k', A4, _, _, hf', ⟨by omega, by omega, by omega, g1⟩, ⟨fun x y hx hy => ?_, fun y hy => ?_, fun x hx => ?_⟩, g4, T4', TV_new hp hC hs i1 hT, ?_⟩
      · rw [g2 x y (by omega) hy (j1 x y hx hy)]; exact j1 x y hx hy
      · by_cases c : y < s
        · rw [g2 t y i1 (by omega) (j2 y c)]; exact j2 y c
        · rw [show y = s by omega, g3]; exact hn
      · rw [rgx t i1]
        by_cases c : x = n
        · have : nb_rg rg n t x = rg t + 1 := if_pos c
          rw [this]; omega
        · rw [rgx x (by omega)]; exact j3 x (by omega)
      · have eH : hl (fun x => hV p (rv_u V1 n (rv_w1 p cs V1 t s) x)) (n + 1) = khs (ktv p C1 C2 (fl 256 V t) s) p % 2147478481 :: hl (fun x => hV p (V1 x)) n := by
          show hV p (rv_u V1 n (rv_w1 p cs V1 t s) n) :: hl (fun x => hV p (rv_u V1 n (rv_w1 p cs V1 t s) x)) n = _
          have u1 : rv_u V1 n (rv_w1 p cs V1 t s) n = rv_w1 p cs V1 t s := if_pos rfl
          obtain ⟨_, m1⟩ := ktv_ok hp hC hs (V1 := V1 t) (V2 := V2 t) (fun j hj => hT.1 t j i1 hj)
          rw [u1, hl_congr (H := fun x => hV p (rv_u V1 n (rv_w1 p cs V1 t s) x)) (H' := fun x => hV p (V1 x)) n (fun x hx => by
            have u2 : rv_u V1 n (rv_w1 p cs V1 t s) x = V1 x := if_neg (by omega)
            show hV p (rv_u V1 n (rv_w1 p cs V1 t s) x) = hV p (V1 x)
            rw [u2]), khs_eq p (V := rv_w1 p cs V1 t s) (fun j hj => (m1 j hj).1)]
          rfl
        rw [eH, hX]
        rfl
end QR1
/-! a board and its run -/
noncomputable def nlm (p : Nat) (cl : List Nat) (s j : Nat) : Nat := bif Nat.beq (Nat.mod (Nat.add s 1) p) j then cl.getD s 0 else bif Nat.beq (Nat.mod (Nat.add j 1) p) s then cl.getD j 0 else 0
def cvt2 (m : Nat) : Nat := (bif Nat.beq m 0 then 2 else bif Nat.beq m 2 then 0 else bif Nat.beq m 3 then 1 else bif Nat.beq m 4 then 1594540704 else bif Nat.beq m 5 then 582837862 else bif Nat.beq m 6 then 1430042236 else bif Nat.beq m 7 then 436031084 else bif Nat.beq m 8 then 1008630210 else 2025612022)
theorem cvt2_eq : ∀ m : Fin 10, m.1 ≠ 1 → cvt2 m.1 = an_c2 m.1 := by decide +kernel
noncomputable def kC (p : Nat) (cl : List Nat) (f : Nat → Nat) : Nat := pgat 128 (fun s => pgat 32 (fun j => f (nlm p cl s j)) p) p
noncomputable def kV0 (p : Nat) : Nat := Nat.add (pgat 32 (fun _ => 1) p) (Nat.shiftLeft (pgat 32 (fun _ => 1) p) 128)
noncomputable def ck3 (p : Nat) (cl : List Nat) : Bool := nsl cl fun cl => nst (kC p cl cvt) fun C1 => nst (kC p cl cvt2) fun C2 => nst (kV0 p) fun V => nst (Nat.mod (khs V p) 2147478481) fun X => un (dbl p cl C1 C2 13 (1, 0, 0, 0, V, X)) fun n _ _ _ _ X => Nat.beq n 2001 && okX X
theorem nlm_eq {p : Nat} {cl : List Nat} {cs : Nat → Nat} (hcl : ∀ y, y < p → cl.getD y 0 = cs y) {s j : Nat} (hs : s < p) (hj : j < p) : nlm p cl s j = an_m p cs s j := by
  unfold nlm an_m
  show (bif Nat.beq ((s + 1) % p) j then cl.getD s 0 else bif Nat.beq ((j + 1) % p) s then cl.getD j 0 else 0) = _
  by_cases c : (s + 1) % p = j
  · rw [if_pos c, beq_t c]; exact hcl s hs
  · rw [if_neg c, beq_f c]
    by_cases c2 : (j + 1) % p = s
    · rw [if_pos c2, beq_t c2]; exact hcl j hj
    · rw [if_neg c2, beq_f c2]; rfl
theorem an_m_ok {p : Nat} {cs : Nat → Nat} (hcs : ∀ j, j < p → cs j < 10 ∧ cs j ≠ 1) {s j : Nat} (hs : s < p) (hj : j < p) : an_m p cs s j < 10 ∧ an_m p cs s j ≠ 1 := by
  unfold an_m
  by_cases c : (s + 1) % p = j
  · rw [if_pos c]; exact hcs s hs
  · rw [if_neg c]
    by_cases c2 : (j + 1) % p = s
    · rw [if_pos c2]; exact hcs j hj
    · rw [if_neg c2]; decide
theorem kC_fl {p : Nat} {cl : List Nat} {f : Nat → Nat} (hp : p ≤ 4) (hf : ∀ m, f m < 2 ^ 32) {s j : Nat} (hs : s < p) (hj : j < p) : fl 32 (kC p cl f) (4 * s + j) = f (nlm p cl s j) := by
  have inner : ∀ s, pgat 32 (fun j => f (nlm p cl s j)) p < 2 ^ 128 ∧ ∀ j, j < p → fl 32 (pgat 32 (fun j => f (nlm p cl s j)) p) j = f (nlm p cl s j) := fun s => by
    obtain ⟨g1, g2⟩ := fl_gat (w := 32) (f := fun j => f (nlm p cl s j)) p (fun j _ => hf _)
    exact ⟨Nat.lt_of_lt_of_le g1 (Nat.pow_le_pow_right (by decide) (by omega)), g2⟩
  obtain ⟨_, h2⟩ := fl_gat (w := 128) (f := fun s => pgat 32 (fun j => f (nlm p cl s j)) p) p (fun s _ => (inner s).1)
  rw [← (inner s).2 j hj, ← h2 s hs]
  apply Nat.eq_of_testBit_eq
  intro k
  rw [fl_bit, fl_bit, fl_bit]
  by_cases hk : k < 32
  · rw [decide_eq_true hk, decide_eq_true (show 32 * j + k < 128 by omega), Bool.true_and, Bool.true_and, Bool.true_and, show 128 * s + (32 * j + k) = 32 * (4 * s + j) + k by omega]
    rfl
  · rw [decide_eq_false hk, Bool.false_and, Bool.false_and]
theorem cvt_lt (m : Nat) : cvt m < 2 ^ 32 ∧ cvt2 m < 2 ^ 32 := by
  have b : ∀ (x : Bool) (a c : Nat), a < 2 ^ 32 → c < 2 ^ 32 → (bif x then a else c) < 2 ^ 32 := fun x a c ha hc => by
    cases x
    · exact hc
    · exact ha
  constructor
  · unfold cvt
    exact b _ _ _ (by decide) (b _ _ _ (by decide) (b _ _ _ (by decide) (b _ _ _ (by decide) (b _ _ _ (by decide) (b _ _ _ (by decide) (b _ _ _ (by decide) (b _ _ _ (by decide) (by decide))))))))
  · unfold cvt2
    exact b _ _ _ (by decide) (b _ _ _ (by decide) (b _ _ _ (by decide) (b _ _ _ (by decide) (b _ _ _ (by decide) (b _ _ _ (by decide) (b _ _ _ (by decide) (b _ _ _ (by decide) (by decide))))))))
theorem fl_small {w v : Nat} (hv : v < 2 ^ w) : fl w v 0 = v ∧ ∀ i, 0 < i → fl w v i = 0 := by
  constructor
  · apply Nat.eq_of_testBit_eq
    intro k
    rw [fl_bit, Nat.mul_zero, Nat.zero_add]
    by_cases c : k < w
    · rw [decide_eq_true c, Bool.true_and]
    · rw [decide_eq_false c, Bool.false_and]
      exact (Nat.testBit_lt_two_pow (Nat.lt_of_lt_of_le hv (Nat.pow_le_pow_right (by decide) (by omega)))).symm
  · intro i hi
    apply Nat.eq_of_testBit_eq
    intro k
    have q : w * 1 ≤ w * i := Nat.mul_le_mul_left _ hi
    rw [Nat.mul_one] at q
    rw [fl_bit, Nat.zero_testBit, Nat.testBit_lt_two_pow (Nat.lt_of_lt_of_le hv (Nat.pow_le_pow_right (by decide) (show w ≤ w * i + k by omega))), Bool.and_false]
theorem ck3_pg {p : Nat} {cl : List Nat} {cs : Nat → Nat} (hp3 : 3 ≤ p) (hp : p ≤ 4) (hcs : ∀ j, j < p → cs j < 10 ∧ cs j ≠ 1) (hcl : ∀ y, y < p → cl.getD y 0 = cs y) (h : ck3 p cl = true) : ∃ Q, pg_ok p cs Q := by
  have h' : un (dbl p cl (kC p cl cvt) (kC p cl cvt2) 13 (1, 0, 0, 0, kV0 p, khs (kV0 p) p % 2147478481)) (fun n _ _ _ _ X => Nat.beq n 2001 && okX X) = true := by
    unfold ck3 at h
    rw [nsl_eq, nst_eq, nst_eq, nst_eq, nst_eq] at h
    exact h
  rw [un_eq, dbl_eq, Bool.and_eq_true] at h'
  have hC : CW p cs (kC p cl cvt) (kC p cl cvt2) := fun s j hs hj _ => by
    rw [kC_fl hp (fun m => (cvt_lt m).1) hs hj, kC_fl hp (fun m => (cvt_lt m).2) hs hj, nlm_eq hcl hs hj]
    obtain ⟨m1, m2⟩ := an_m_ok hcs hs hj
    exact ⟨cvt_eq ⟨_, m1⟩ m2, cvt2_eq ⟨_, m1⟩ m2⟩
  refine ⟨_, QR_ok hp3 hp hcl hC ⟨2 ^ 13, 0, kV0 p, khs (kV0 p) p % 2147478481, ⟨Nat.eq_of_beq_eq_true h'.1, h'.2⟩, ⟨Nat.one_pos, by decide, Nat.zero_le _, fun x y _ _ z => absurd z (Nat.lt_irrefl 2000), fun _ _ _ _ => Nat.le_refl _⟩, ⟨fun x y hx => absurd hx (Nat.not_lt_zero x), fun y hy => absurd hy (Nat.not_lt_zero y), fun x _ => ⟨Nat.zero_le _, by show (0 : Nat) < 63; decide⟩⟩, fun x y _ _ _ z => absurd z (Nat.lt_irrefl 2000), ?_, ?_, ?_⟩⟩
  · refine ⟨fun x y _ _ => ?_, fun x _ => ?_, fun i _ => fl_0 _ _⟩
    · show 2000 = de (fl 12 0 (5 * x + y)) ∧ _
      rw [fl_0]
      exact ⟨rfl, Nat.zero_le _⟩
    · show 0 = fl 12 0 (5 * x + 4)
      rw [fl_0]
  · obtain ⟨g1, g2⟩ := fl_gat (w := 32) (f := fun _ => 1) p (fun _ _ => by decide)
    have g3 : pgat 32 (fun _ => 1) p < 2 ^ 128 := Nat.lt_of_lt_of_le g1 (Nat.pow_le_pow_right (by decide) (by omega))
    obtain ⟨t1, t2⟩ := fl_two (a := pgat 32 (fun _ => 1) p) (b := pgat 32 (fun _ => 1) p) g3
    have e0 : kV0 p = pgat 32 (fun _ => 1) p + (pgat 32 (fun _ => 1) p) <<< 128 := rfl
    have lt : kV0 p < 2 ^ 256 := by
      rw [e0]
      generalize pgat 32 (fun _ => 1) p = K at g3
      have : K <<< 128 = K * 2 ^ 128 := Nat.shiftLeft_eq _ _
      rw [this]
      have k4 : (K + 1) * 2 ^ 128 ≤ 2 ^ 128 * 2 ^ 128 := Nat.mul_le_mul_right _ g3
      have k5 : (2 : Nat) ^ 128 * 2 ^ 128 = 2 ^ 256 := by rw [← Nat.pow_add]
      rw [Nat.add_mul, Nat.one_mul] at k4
      omega
    have f0 := (fl_small lt).1
    refine ⟨fun x j hx hj => ?_, fun i hi => ?_⟩
    · rw [show x = 0 by omega, f0, e0, t1 j (by omega), t2 j, g2 j hj]
      exact ⟨rfl, rfl⟩
    · exact (fl_small lt).2 i (by omega)
  · show khs (kV0 p) p % 2147478481 = hV p (fun _ => 1) + 2 ^ 34 * 0
    obtain ⟨g1, g2⟩ := fl_gat (w := 32) (f := fun _ => 1) p (fun _ _ => by decide)
    have g3 : pgat 32 (fun _ => 1) p < 2 ^ 128 := Nat.lt_of_lt_of_le g1 (Nat.pow_le_pow_right (by decide) (by omega))
    obtain ⟨t1, _⟩ := fl_two (a := pgat 32 (fun _ => 1) p) (b := pgat 32 (fun _ => 1) p) g3
    rw [khs_eq p (V := fun _ => 1) (fun j hj => by
      show 1 = fl 32 (pgat 32 (fun _ => 1) p + (pgat 32 (fun _ => 1) p) <<< 128) j
      rw [t1 j (by omega), g2 j hj]), Nat.mul_zero, Nat.add_zero]
    rfl
